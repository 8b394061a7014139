-- ===== PART A: goes FIRST, ahead of the names: the tables' words, and 'selects' of the private methods out of them =====
/-- a private method of a class that the tables say can be made, by its rows of tables_1 -/
def lw_okq (q : MethodName × Nat) : Prop := (q.1.cls ≠ "java/lang/invoke/MethodHandle" ∧ q.1.cls ≠ "java/lang/invoke/VarHandle") ∧ Cond.instantiable q.1.cls q.2 ∈ tables_1 ∧ Cond.privateMethod q.1 ∈ tables_1 ∧ Cond.instanceMethod q.1 ∈ tables_1
theorem lw_p0 : lw_okq (⟨"RangeScheduler", "fail", "(I)I"⟩, 6) := ⟨⟨by decide +kernel, by decide +kernel⟩, List.mem_of_getElem? (i := 15) (by decide +kernel), List.mem_of_getElem? (i := 270) (by decide +kernel), List.mem_of_getElem? (i := 271) (by decide +kernel)⟩
theorem lw_p1 : lw_okq (⟨"RangeScheduler$Items", "placeOf", "(I)I"⟩, 3) := ⟨⟨by decide +kernel, by decide +kernel⟩, List.mem_of_getElem? (i := 144) (by decide +kernel), List.mem_of_getElem? (i := 409) (by decide +kernel), List.mem_of_getElem? (i := 410) (by decide +kernel)⟩
theorem lw_p2 : lw_okq (⟨"RangeScheduler$Items", "isAt", "(II)Z"⟩, 3) := ⟨⟨by decide +kernel, by decide +kernel⟩, List.mem_of_getElem? (i := 144) (by decide +kernel), List.mem_of_getElem? (i := 413) (by decide +kernel), List.mem_of_getElem? (i := 414) (by decide +kernel)⟩
theorem lw_p3 : lw_okq (⟨"RangeScheduler$Ranges", "copyWithin", "(II)V"⟩, 7) := ⟨⟨by decide +kernel, by decide +kernel⟩, List.mem_of_getElem? (i := 100) (by decide +kernel), List.mem_of_getElem? (i := 460) (by decide +kernel), List.mem_of_getElem? (i := 461) (by decide +kernel)⟩
theorem lw_p4 : lw_okq (⟨"RangeScheduler$Driver", "advanceLearner", "(I)V"⟩, 4) := ⟨⟨by decide +kernel, by decide +kernel⟩, List.mem_of_getElem? (i := 23) (by decide +kernel), List.mem_of_getElem? (i := 476) (by decide +kernel), List.mem_of_getElem? (i := 477) (by decide +kernel)⟩
theorem lw_p5 : lw_okq (⟨"RangeScheduler$Driver", "perform", "(II)Z"⟩, 4) := ⟨⟨by decide +kernel, by decide +kernel⟩, List.mem_of_getElem? (i := 23) (by decide +kernel), List.mem_of_getElem? (i := 484) (by decide +kernel), List.mem_of_getElem? (i := 485) (by decide +kernel)⟩
theorem lw_p6 : lw_okq (⟨"RangeScheduler$Driver", "create", "(I)Z"⟩, 4) := ⟨⟨by decide +kernel, by decide +kernel⟩, List.mem_of_getElem? (i := 23) (by decide +kernel), List.mem_of_getElem? (i := 488) (by decide +kernel), List.mem_of_getElem? (i := 489) (by decide +kernel)⟩
theorem lw_p7 : lw_okq (⟨"RangeScheduler$Driver", "choose", "(II)I"⟩, 4) := ⟨⟨by decide +kernel, by decide +kernel⟩, List.mem_of_getElem? (i := 23) (by decide +kernel), List.mem_of_getElem? (i := 492) (by decide +kernel), List.mem_of_getElem? (i := 493) (by decide +kernel)⟩
theorem lw_p8 : lw_okq (⟨"RangeScheduler$Driver", "isFresh", "(III)Z"⟩, 4) := ⟨⟨by decide +kernel, by decide +kernel⟩, List.mem_of_getElem? (i := 23) (by decide +kernel), List.mem_of_getElem? (i := 501) (by decide +kernel), List.mem_of_getElem? (i := 502) (by decide +kernel)⟩
theorem lw_p9 : lw_okq (⟨"RangeScheduler$Driver", "repair", "(I)Z"⟩, 4) := ⟨⟨by decide +kernel, by decide +kernel⟩, List.mem_of_getElem? (i := 23) (by decide +kernel), List.mem_of_getElem? (i := 509) (by decide +kernel), List.mem_of_getElem? (i := 510) (by decide +kernel)⟩
theorem lw_p10 : lw_okq (⟨"RangeScheduler$Driver", "lowestOf", "(I)I"⟩, 4) := ⟨⟨by decide +kernel, by decide +kernel⟩, List.mem_of_getElem? (i := 23) (by decide +kernel), List.mem_of_getElem? (i := 521) (by decide +kernel), List.mem_of_getElem? (i := 522) (by decide +kernel)⟩
theorem lw_p11 : lw_okq (⟨"RangeScheduler$Driver", "teach", "(III)V"⟩, 4) := ⟨⟨by decide +kernel, by decide +kernel⟩, List.mem_of_getElem? (i := 23) (by decide +kernel), List.mem_of_getElem? (i := 525) (by decide +kernel), List.mem_of_getElem? (i := 526) (by decide +kernel)⟩
theorem lw_p12 : lw_okq (⟨"RangeScheduler$Driver", "spread", "(I)Z"⟩, 4) := ⟨⟨by decide +kernel, by decide +kernel⟩, List.mem_of_getElem? (i := 23) (by decide +kernel), List.mem_of_getElem? (i := 546) (by decide +kernel), List.mem_of_getElem? (i := 547) (by decide +kernel)⟩
theorem lw_p13 : lw_okq (⟨"RangeScheduler$Driver", "isWhole", "(I)Z"⟩, 4) := ⟨⟨by decide +kernel, by decide +kernel⟩, List.mem_of_getElem? (i := 23) (by decide +kernel), List.mem_of_getElem? (i := 550) (by decide +kernel), List.mem_of_getElem? (i := 551) (by decide +kernel)⟩
theorem lw_p14 : lw_okq (⟨"RangeScheduler$Driver", "highestSharingZone", "(I)I"⟩, 4) := ⟨⟨by decide +kernel, by decide +kernel⟩, List.mem_of_getElem? (i := 23) (by decide +kernel), List.mem_of_getElem? (i := 554) (by decide +kernel), List.mem_of_getElem? (i := 555) (by decide +kernel)⟩
theorem lw_p15 : lw_okq (⟨"RangeScheduler$Driver", "splitBySize", "(I)Z"⟩, 4) := ⟨⟨by decide +kernel, by decide +kernel⟩, List.mem_of_getElem? (i := 23) (by decide +kernel), List.mem_of_getElem? (i := 558) (by decide +kernel), List.mem_of_getElem? (i := 559) (by decide +kernel)⟩
def lw_privs_1 : List (MethodName × Nat) := [(⟨"RangeScheduler", "fail", "(I)I"⟩, 6), (⟨"RangeScheduler$Items", "placeOf", "(I)I"⟩, 3), (⟨"RangeScheduler$Items", "isAt", "(II)Z"⟩, 3), (⟨"RangeScheduler$Ranges", "copyWithin", "(II)V"⟩, 7), (⟨"RangeScheduler$Driver", "advanceLearner", "(I)V"⟩, 4), (⟨"RangeScheduler$Driver", "perform", "(II)Z"⟩, 4), (⟨"RangeScheduler$Driver", "create", "(I)Z"⟩, 4), (⟨"RangeScheduler$Driver", "choose", "(II)I"⟩, 4), (⟨"RangeScheduler$Driver", "isFresh", "(III)Z"⟩, 4), (⟨"RangeScheduler$Driver", "repair", "(I)Z"⟩, 4), (⟨"RangeScheduler$Driver", "lowestOf", "(I)I"⟩, 4), (⟨"RangeScheduler$Driver", "teach", "(III)V"⟩, 4), (⟨"RangeScheduler$Driver", "spread", "(I)Z"⟩, 4), (⟨"RangeScheduler$Driver", "isWhole", "(I)Z"⟩, 4), (⟨"RangeScheduler$Driver", "highestSharingZone", "(I)I"⟩, 4), (⟨"RangeScheduler$Driver", "splitBySize", "(I)Z"⟩, 4)]
theorem lw_r1 : ∀ q ∈ lw_privs_1, lw_okq q := List.forall_mem_cons.mpr ⟨lw_p0, List.forall_mem_cons.mpr ⟨lw_p1, List.forall_mem_cons.mpr ⟨lw_p2, List.forall_mem_cons.mpr ⟨lw_p3, List.forall_mem_cons.mpr ⟨lw_p4, List.forall_mem_cons.mpr ⟨lw_p5, List.forall_mem_cons.mpr ⟨lw_p6, List.forall_mem_cons.mpr ⟨lw_p7, List.forall_mem_cons.mpr ⟨lw_p8, List.forall_mem_cons.mpr ⟨lw_p9, List.forall_mem_cons.mpr ⟨lw_p10, List.forall_mem_cons.mpr ⟨lw_p11, List.forall_mem_cons.mpr ⟨lw_p12, List.forall_mem_cons.mpr ⟨lw_p13, List.forall_mem_cons.mpr ⟨lw_p14, List.forall_mem_cons.mpr ⟨lw_p15, fun _ h => absurd h List.not_mem_nil⟩⟩⟩⟩⟩⟩⟩⟩⟩⟩⟩⟩⟩⟩⟩⟩
theorem lw_p16 : lw_okq (⟨"RangeScheduler$Driver", "divideAt", "(II)Z"⟩, 4) := ⟨⟨by decide +kernel, by decide +kernel⟩, List.mem_of_getElem? (i := 23) (by decide +kernel), List.mem_of_getElem? (i := 572) (by decide +kernel), List.mem_of_getElem? (i := 573) (by decide +kernel)⟩
theorem lw_p17 : lw_okq (⟨"RangeScheduler$Driver", "splitByLoad", "(I)Z"⟩, 4) := ⟨⟨by decide +kernel, by decide +kernel⟩, List.mem_of_getElem? (i := 23) (by decide +kernel), List.mem_of_getElem? (i := 577) (by decide +kernel), List.mem_of_getElem? (i := 578) (by decide +kernel)⟩
theorem lw_p18 : lw_okq (⟨"RangeScheduler$Samples", "leastBetween", "(II)I"⟩, 2) := ⟨⟨by decide +kernel, by decide +kernel⟩, List.mem_of_getElem? (i := 161) (by decide +kernel), List.mem_of_getElem? (i := 598) (by decide +kernel), List.mem_of_getElem? (i := 599) (by decide +kernel)⟩
theorem lw_p19 : lw_okq (⟨"RangeScheduler$Driver", "merge", "(I)Z"⟩, 4) := ⟨⟨by decide +kernel, by decide +kernel⟩, List.mem_of_getElem? (i := 23) (by decide +kernel), List.mem_of_getElem? (i := 602) (by decide +kernel), List.mem_of_getElem? (i := 603) (by decide +kernel)⟩
theorem lw_p20 : lw_okq (⟨"RangeScheduler$Driver", "isCold", "(I)Z"⟩, 4) := ⟨⟨by decide +kernel, by decide +kernel⟩, List.mem_of_getElem? (i := 23) (by decide +kernel), List.mem_of_getElem? (i := 606) (by decide +kernel), List.mem_of_getElem? (i := 607) (by decide +kernel)⟩
theorem lw_p21 : lw_okq (⟨"RangeScheduler$Driver", "shiftLeader", "(I)Z"⟩, 4) := ⟨⟨by decide +kernel, by decide +kernel⟩, List.mem_of_getElem? (i := 23) (by decide +kernel), List.mem_of_getElem? (i := 614) (by decide +kernel), List.mem_of_getElem? (i := 615) (by decide +kernel)⟩
theorem lw_p22 : lw_okq (⟨"RangeScheduler$Driver", "shiftReplica", "(I)Z"⟩, 4) := ⟨⟨by decide +kernel, by decide +kernel⟩, List.mem_of_getElem? (i := 23) (by decide +kernel), List.mem_of_getElem? (i := 620) (by decide +kernel), List.mem_of_getElem? (i := 621) (by decide +kernel)⟩
theorem lw_p23 : lw_okq (⟨"RangeScheduler$Driver", "mostLoaded", "(I)I"⟩, 4) := ⟨⟨by decide +kernel, by decide +kernel⟩, List.mem_of_getElem? (i := 23) (by decide +kernel), List.mem_of_getElem? (i := 624) (by decide +kernel), List.mem_of_getElem? (i := 625) (by decide +kernel)⟩
theorem lw_p24 : lw_okq (⟨"RangeScheduler", "mixSettings", "(J)J"⟩, 6) := ⟨⟨by decide +kernel, by decide +kernel⟩, List.mem_of_getElem? (i := 15) (by decide +kernel), List.mem_of_getElem? (i := 730) (by decide +kernel), List.mem_of_getElem? (i := 731) (by decide +kernel)⟩
theorem lw_p25 : lw_okq (⟨"RangeScheduler", "mixNodes", "(J)J"⟩, 6) := ⟨⟨by decide +kernel, by decide +kernel⟩, List.mem_of_getElem? (i := 15) (by decide +kernel), List.mem_of_getElem? (i := 734) (by decide +kernel), List.mem_of_getElem? (i := 735) (by decide +kernel)⟩
theorem lw_p26 : lw_okq (⟨"RangeScheduler", "mixRanges", "(J)J"⟩, 6) := ⟨⟨by decide +kernel, by decide +kernel⟩, List.mem_of_getElem? (i := 15) (by decide +kernel), List.mem_of_getElem? (i := 738) (by decide +kernel), List.mem_of_getElem? (i := 739) (by decide +kernel)⟩
theorem lw_p27 : lw_okq (⟨"RangeSchedulerModel", "set", "(III)V"⟩, 5) := ⟨⟨by decide +kernel, by decide +kernel⟩, List.mem_of_getElem? (i := 745) (by decide +kernel), List.mem_of_getElem? (i := 751) (by decide +kernel), List.mem_of_getElem? (i := 752) (by decide +kernel)⟩
theorem lw_p28 : lw_okq (⟨"RangeSchedulerModel", "fail", "(I)I"⟩, 5) := ⟨⟨by decide +kernel, by decide +kernel⟩, List.mem_of_getElem? (i := 745) (by decide +kernel), List.mem_of_getElem? (i := 775) (by decide +kernel), List.mem_of_getElem? (i := 776) (by decide +kernel)⟩
theorem lw_p29 : lw_okq (⟨"RangeSchedulerModel", "note", "()V"⟩, 5) := ⟨⟨by decide +kernel, by decide +kernel⟩, List.mem_of_getElem? (i := 745) (by decide +kernel), List.mem_of_getElem? (i := 783) (by decide +kernel), List.mem_of_getElem? (i := 784) (by decide +kernel)⟩
theorem lw_p30 : lw_okq (⟨"RangeSchedulerModel", "oneTick", "()I"⟩, 5) := ⟨⟨by decide +kernel, by decide +kernel⟩, List.mem_of_getElem? (i := 745) (by decide +kernel), List.mem_of_getElem? (i := 787) (by decide +kernel), List.mem_of_getElem? (i := 788) (by decide +kernel)⟩
theorem lw_p31 : lw_okq (⟨"RangeSchedulerModel", "progress", "(I)V"⟩, 5) := ⟨⟨by decide +kernel, by decide +kernel⟩, List.mem_of_getElem? (i := 745) (by decide +kernel), List.mem_of_getElem? (i := 791) (by decide +kernel), List.mem_of_getElem? (i := 792) (by decide +kernel)⟩
def lw_privs_2 : List (MethodName × Nat) := [(⟨"RangeScheduler$Driver", "divideAt", "(II)Z"⟩, 4), (⟨"RangeScheduler$Driver", "splitByLoad", "(I)Z"⟩, 4), (⟨"RangeScheduler$Samples", "leastBetween", "(II)I"⟩, 2), (⟨"RangeScheduler$Driver", "merge", "(I)Z"⟩, 4), (⟨"RangeScheduler$Driver", "isCold", "(I)Z"⟩, 4), (⟨"RangeScheduler$Driver", "shiftLeader", "(I)Z"⟩, 4), (⟨"RangeScheduler$Driver", "shiftReplica", "(I)Z"⟩, 4), (⟨"RangeScheduler$Driver", "mostLoaded", "(I)I"⟩, 4), (⟨"RangeScheduler", "mixSettings", "(J)J"⟩, 6), (⟨"RangeScheduler", "mixNodes", "(J)J"⟩, 6), (⟨"RangeScheduler", "mixRanges", "(J)J"⟩, 6), (⟨"RangeSchedulerModel", "set", "(III)V"⟩, 5), (⟨"RangeSchedulerModel", "fail", "(I)I"⟩, 5), (⟨"RangeSchedulerModel", "note", "()V"⟩, 5), (⟨"RangeSchedulerModel", "oneTick", "()I"⟩, 5), (⟨"RangeSchedulerModel", "progress", "(I)V"⟩, 5)]
theorem lw_r2 : ∀ q ∈ lw_privs_2, lw_okq q := List.forall_mem_cons.mpr ⟨lw_p16, List.forall_mem_cons.mpr ⟨lw_p17, List.forall_mem_cons.mpr ⟨lw_p18, List.forall_mem_cons.mpr ⟨lw_p19, List.forall_mem_cons.mpr ⟨lw_p20, List.forall_mem_cons.mpr ⟨lw_p21, List.forall_mem_cons.mpr ⟨lw_p22, List.forall_mem_cons.mpr ⟨lw_p23, List.forall_mem_cons.mpr ⟨lw_p24, List.forall_mem_cons.mpr ⟨lw_p25, List.forall_mem_cons.mpr ⟨lw_p26, List.forall_mem_cons.mpr ⟨lw_p27, List.forall_mem_cons.mpr ⟨lw_p28, List.forall_mem_cons.mpr ⟨lw_p29, List.forall_mem_cons.mpr ⟨lw_p30, List.forall_mem_cons.mpr ⟨lw_p31, fun _ h => absurd h List.not_mem_nil⟩⟩⟩⟩⟩⟩⟩⟩⟩⟩⟩⟩⟩⟩⟩⟩
theorem lw_p32 : lw_okq (⟨"RangeSchedulerModel", "of", "(II)I"⟩, 5) := ⟨⟨by decide +kernel, by decide +kernel⟩, List.mem_of_getElem? (i := 745) (by decide +kernel), List.mem_of_getElem? (i := 795) (by decide +kernel), List.mem_of_getElem? (i := 796) (by decide +kernel)⟩
theorem lw_p33 : lw_okq (⟨"RangeSchedulerModel", "isUp", "(I)Z"⟩, 5) := ⟨⟨by decide +kernel, by decide +kernel⟩, List.mem_of_getElem? (i := 745) (by decide +kernel), List.mem_of_getElem? (i := 799) (by decide +kernel), List.mem_of_getElem? (i := 800) (by decide +kernel)⟩
theorem lw_p34 : lw_okq (⟨"RangeSchedulerModel", "forgetLearner", "(I)V"⟩, 5) := ⟨⟨by decide +kernel, by decide +kernel⟩, List.mem_of_getElem? (i := 745) (by decide +kernel), List.mem_of_getElem? (i := 803) (by decide +kernel), List.mem_of_getElem? (i := 804) (by decide +kernel)⟩
theorem lw_p35 : lw_okq (⟨"RangeSchedulerModel", "elect", "(I)V"⟩, 5) := ⟨⟨by decide +kernel, by decide +kernel⟩, List.mem_of_getElem? (i := 745) (by decide +kernel), List.mem_of_getElem? (i := 807) (by decide +kernel), List.mem_of_getElem? (i := 808) (by decide +kernel)⟩
theorem lw_p36 : lw_okq (⟨"RangeSchedulerModel", "available", "(I)Z"⟩, 5) := ⟨⟨by decide +kernel, by decide +kernel⟩, List.mem_of_getElem? (i := 745) (by decide +kernel), List.mem_of_getElem? (i := 811) (by decide +kernel), List.mem_of_getElem? (i := 812) (by decide +kernel)⟩
theorem lw_p37 : lw_okq (⟨"RangeSchedulerModel", "ups", "()I"⟩, 5) := ⟨⟨by decide +kernel, by decide +kernel⟩, List.mem_of_getElem? (i := 745) (by decide +kernel), List.mem_of_getElem? (i := 815) (by decide +kernel), List.mem_of_getElem? (i := 816) (by decide +kernel)⟩
theorem lw_p38 : lw_okq (⟨"RangeSchedulerModel", "leads", "(II)I"⟩, 5) := ⟨⟨by decide +kernel, by decide +kernel⟩, List.mem_of_getElem? (i := 745) (by decide +kernel), List.mem_of_getElem? (i := 825) (by decide +kernel), List.mem_of_getElem? (i := 826) (by decide +kernel)⟩
theorem lw_p39 : lw_okq (⟨"RangeSchedulerModel", "does", "(II)Z"⟩, 5) := ⟨⟨by decide +kernel, by decide +kernel⟩, List.mem_of_getElem? (i := 745) (by decide +kernel), List.mem_of_getElem? (i := 829) (by decide +kernel), List.mem_of_getElem? (i := 830) (by decide +kernel)⟩
theorem lw_p40 : lw_okq (⟨"RangeSchedulerModel", "create", "(I)Z"⟩, 5) := ⟨⟨by decide +kernel, by decide +kernel⟩, List.mem_of_getElem? (i := 745) (by decide +kernel), List.mem_of_getElem? (i := 833) (by decide +kernel), List.mem_of_getElem? (i := 834) (by decide +kernel)⟩
theorem lw_p41 : lw_okq (⟨"RangeSchedulerModel", "choose", "(II)I"⟩, 5) := ⟨⟨by decide +kernel, by decide +kernel⟩, List.mem_of_getElem? (i := 745) (by decide +kernel), List.mem_of_getElem? (i := 837) (by decide +kernel), List.mem_of_getElem? (i := 838) (by decide +kernel)⟩
theorem lw_p42 : lw_okq (⟨"RangeSchedulerModel", "replicasOf", "(I)I"⟩, 5) := ⟨⟨by decide +kernel, by decide +kernel⟩, List.mem_of_getElem? (i := 745) (by decide +kernel), List.mem_of_getElem? (i := 841) (by decide +kernel), List.mem_of_getElem? (i := 842) (by decide +kernel)⟩
theorem lw_p43 : lw_okq (⟨"RangeSchedulerModel", "isFresh", "(III)Z"⟩, 5) := ⟨⟨by decide +kernel, by decide +kernel⟩, List.mem_of_getElem? (i := 745) (by decide +kernel), List.mem_of_getElem? (i := 845) (by decide +kernel), List.mem_of_getElem? (i := 846) (by decide +kernel)⟩
theorem lw_p44 : lw_okq (⟨"RangeSchedulerModel", "zone", "(I)I"⟩, 5) := ⟨⟨by decide +kernel, by decide +kernel⟩, List.mem_of_getElem? (i := 745) (by decide +kernel), List.mem_of_getElem? (i := 849) (by decide +kernel), List.mem_of_getElem? (i := 850) (by decide +kernel)⟩
theorem lw_p45 : lw_okq (⟨"RangeSchedulerModel", "repair", "(I)Z"⟩, 5) := ⟨⟨by decide +kernel, by decide +kernel⟩, List.mem_of_getElem? (i := 745) (by decide +kernel), List.mem_of_getElem? (i := 853) (by decide +kernel), List.mem_of_getElem? (i := 854) (by decide +kernel)⟩
theorem lw_p46 : lw_okq (⟨"RangeSchedulerModel", "learn", "(III)V"⟩, 5) := ⟨⟨by decide +kernel, by decide +kernel⟩, List.mem_of_getElem? (i := 745) (by decide +kernel), List.mem_of_getElem? (i := 857) (by decide +kernel), List.mem_of_getElem? (i := 858) (by decide +kernel)⟩
theorem lw_p47 : lw_okq (⟨"RangeSchedulerModel", "all", "(II)I"⟩, 5) := ⟨⟨by decide +kernel, by decide +kernel⟩, List.mem_of_getElem? (i := 745) (by decide +kernel), List.mem_of_getElem? (i := 861) (by decide +kernel), List.mem_of_getElem? (i := 862) (by decide +kernel)⟩
def lw_privs_3 : List (MethodName × Nat) := [(⟨"RangeSchedulerModel", "of", "(II)I"⟩, 5), (⟨"RangeSchedulerModel", "isUp", "(I)Z"⟩, 5), (⟨"RangeSchedulerModel", "forgetLearner", "(I)V"⟩, 5), (⟨"RangeSchedulerModel", "elect", "(I)V"⟩, 5), (⟨"RangeSchedulerModel", "available", "(I)Z"⟩, 5), (⟨"RangeSchedulerModel", "ups", "()I"⟩, 5), (⟨"RangeSchedulerModel", "leads", "(II)I"⟩, 5), (⟨"RangeSchedulerModel", "does", "(II)Z"⟩, 5), (⟨"RangeSchedulerModel", "create", "(I)Z"⟩, 5), (⟨"RangeSchedulerModel", "choose", "(II)I"⟩, 5), (⟨"RangeSchedulerModel", "replicasOf", "(I)I"⟩, 5), (⟨"RangeSchedulerModel", "isFresh", "(III)Z"⟩, 5), (⟨"RangeSchedulerModel", "zone", "(I)I"⟩, 5), (⟨"RangeSchedulerModel", "repair", "(I)Z"⟩, 5), (⟨"RangeSchedulerModel", "learn", "(III)V"⟩, 5), (⟨"RangeSchedulerModel", "all", "(II)I"⟩, 5)]
theorem lw_r3 : ∀ q ∈ lw_privs_3, lw_okq q := List.forall_mem_cons.mpr ⟨lw_p32, List.forall_mem_cons.mpr ⟨lw_p33, List.forall_mem_cons.mpr ⟨lw_p34, List.forall_mem_cons.mpr ⟨lw_p35, List.forall_mem_cons.mpr ⟨lw_p36, List.forall_mem_cons.mpr ⟨lw_p37, List.forall_mem_cons.mpr ⟨lw_p38, List.forall_mem_cons.mpr ⟨lw_p39, List.forall_mem_cons.mpr ⟨lw_p40, List.forall_mem_cons.mpr ⟨lw_p41, List.forall_mem_cons.mpr ⟨lw_p42, List.forall_mem_cons.mpr ⟨lw_p43, List.forall_mem_cons.mpr ⟨lw_p44, List.forall_mem_cons.mpr ⟨lw_p45, List.forall_mem_cons.mpr ⟨lw_p46, List.forall_mem_cons.mpr ⟨lw_p47, fun _ h => absurd h List.not_mem_nil⟩⟩⟩⟩⟩⟩⟩⟩⟩⟩⟩⟩⟩⟩⟩⟩
theorem lw_p48 : lw_okq (⟨"RangeSchedulerModel", "below", "(III)I"⟩, 5) := ⟨⟨by decide +kernel, by decide +kernel⟩, List.mem_of_getElem? (i := 745) (by decide +kernel), List.mem_of_getElem? (i := 865) (by decide +kernel), List.mem_of_getElem? (i := 866) (by decide +kernel)⟩
theorem lw_p49 : lw_okq (⟨"RangeSchedulerModel", "isIn", "(II)Z"⟩, 5) := ⟨⟨by decide +kernel, by decide +kernel⟩, List.mem_of_getElem? (i := 745) (by decide +kernel), List.mem_of_getElem? (i := 869) (by decide +kernel), List.mem_of_getElem? (i := 870) (by decide +kernel)⟩
theorem lw_p50 : lw_okq (⟨"RangeSchedulerModel", "end", "(I)I"⟩, 5) := ⟨⟨by decide +kernel, by decide +kernel⟩, List.mem_of_getElem? (i := 745) (by decide +kernel), List.mem_of_getElem? (i := 873) (by decide +kernel), List.mem_of_getElem? (i := 874) (by decide +kernel)⟩
theorem lw_p51 : lw_okq (⟨"RangeSchedulerModel", "spread", "(I)Z"⟩, 5) := ⟨⟨by decide +kernel, by decide +kernel⟩, List.mem_of_getElem? (i := 745) (by decide +kernel), List.mem_of_getElem? (i := 880) (by decide +kernel), List.mem_of_getElem? (i := 881) (by decide +kernel)⟩
theorem lw_p52 : lw_okq (⟨"RangeSchedulerModel", "isWhole", "(I)Z"⟩, 5) := ⟨⟨by decide +kernel, by decide +kernel⟩, List.mem_of_getElem? (i := 745) (by decide +kernel), List.mem_of_getElem? (i := 884) (by decide +kernel), List.mem_of_getElem? (i := 885) (by decide +kernel)⟩
theorem lw_p53 : lw_okq (⟨"RangeSchedulerModel", "splitBy", "(II)Z"⟩, 5) := ⟨⟨by decide +kernel, by decide +kernel⟩, List.mem_of_getElem? (i := 745) (by decide +kernel), List.mem_of_getElem? (i := 888) (by decide +kernel), List.mem_of_getElem? (i := 889) (by decide +kernel)⟩
theorem lw_p54 : lw_okq (⟨"RangeSchedulerModel", "splitKeyOf", "(II)I"⟩, 5) := ⟨⟨by decide +kernel, by decide +kernel⟩, List.mem_of_getElem? (i := 745) (by decide +kernel), List.mem_of_getElem? (i := 892) (by decide +kernel), List.mem_of_getElem? (i := 893) (by decide +kernel)⟩
theorem lw_p55 : lw_okq (⟨"RangeSchedulerModel", "split", "(II)V"⟩, 5) := ⟨⟨by decide +kernel, by decide +kernel⟩, List.mem_of_getElem? (i := 745) (by decide +kernel), List.mem_of_getElem? (i := 896) (by decide +kernel), List.mem_of_getElem? (i := 897) (by decide +kernel)⟩
theorem lw_p56 : lw_okq (⟨"RangeSchedulerModel", "mergeNext", "(I)Z"⟩, 5) := ⟨⟨by decide +kernel, by decide +kernel⟩, List.mem_of_getElem? (i := 745) (by decide +kernel), List.mem_of_getElem? (i := 900) (by decide +kernel), List.mem_of_getElem? (i := 901) (by decide +kernel)⟩
theorem lw_p57 : lw_okq (⟨"RangeSchedulerModel", "isCold", "(I)Z"⟩, 5) := ⟨⟨by decide +kernel, by decide +kernel⟩, List.mem_of_getElem? (i := 745) (by decide +kernel), List.mem_of_getElem? (i := 904) (by decide +kernel), List.mem_of_getElem? (i := 905) (by decide +kernel)⟩
theorem lw_p58 : lw_okq (⟨"RangeSchedulerModel", "mergeNextInto", "(I)V"⟩, 5) := ⟨⟨by decide +kernel, by decide +kernel⟩, List.mem_of_getElem? (i := 745) (by decide +kernel), List.mem_of_getElem? (i := 908) (by decide +kernel), List.mem_of_getElem? (i := 909) (by decide +kernel)⟩
theorem lw_p59 : lw_okq (⟨"RangeSchedulerModel", "shiftLeader", "(I)Z"⟩, 5) := ⟨⟨by decide +kernel, by decide +kernel⟩, List.mem_of_getElem? (i := 745) (by decide +kernel), List.mem_of_getElem? (i := 912) (by decide +kernel), List.mem_of_getElem? (i := 913) (by decide +kernel)⟩
theorem lw_p60 : lw_okq (⟨"RangeSchedulerModel", "shiftReplica", "(I)Z"⟩, 5) := ⟨⟨by decide +kernel, by decide +kernel⟩, List.mem_of_getElem? (i := 745) (by decide +kernel), List.mem_of_getElem? (i := 916) (by decide +kernel), List.mem_of_getElem? (i := 917) (by decide +kernel)⟩
theorem lw_p61 : lw_okq (⟨"RangeSchedulerModel", "hasLearner", "()Z"⟩, 5) := ⟨⟨by decide +kernel, by decide +kernel⟩, List.mem_of_getElem? (i := 745) (by decide +kernel), List.mem_of_getElem? (i := 924) (by decide +kernel), List.mem_of_getElem? (i := 925) (by decide +kernel)⟩
theorem lw_p62 : lw_okq (⟨"RangeSchedulerModel", "isNode", "(I)Z"⟩, 5) := ⟨⟨by decide +kernel, by decide +kernel⟩, List.mem_of_getElem? (i := 745) (by decide +kernel), List.mem_of_getElem? (i := 944) (by decide +kernel), List.mem_of_getElem? (i := 945) (by decide +kernel)⟩
theorem lw_p63 : lw_okq (⟨"RangeSchedulerModel", "goUp", "()V"⟩, 5) := ⟨⟨by decide +kernel, by decide +kernel⟩, List.mem_of_getElem? (i := 745) (by decide +kernel), List.mem_of_getElem? (i := 948) (by decide +kernel), List.mem_of_getElem? (i := 949) (by decide +kernel)⟩
def lw_privs_4 : List (MethodName × Nat) := [(⟨"RangeSchedulerModel", "below", "(III)I"⟩, 5), (⟨"RangeSchedulerModel", "isIn", "(II)Z"⟩, 5), (⟨"RangeSchedulerModel", "end", "(I)I"⟩, 5), (⟨"RangeSchedulerModel", "spread", "(I)Z"⟩, 5), (⟨"RangeSchedulerModel", "isWhole", "(I)Z"⟩, 5), (⟨"RangeSchedulerModel", "splitBy", "(II)Z"⟩, 5), (⟨"RangeSchedulerModel", "splitKeyOf", "(II)I"⟩, 5), (⟨"RangeSchedulerModel", "split", "(II)V"⟩, 5), (⟨"RangeSchedulerModel", "mergeNext", "(I)Z"⟩, 5), (⟨"RangeSchedulerModel", "isCold", "(I)Z"⟩, 5), (⟨"RangeSchedulerModel", "mergeNextInto", "(I)V"⟩, 5), (⟨"RangeSchedulerModel", "shiftLeader", "(I)Z"⟩, 5), (⟨"RangeSchedulerModel", "shiftReplica", "(I)Z"⟩, 5), (⟨"RangeSchedulerModel", "hasLearner", "()Z"⟩, 5), (⟨"RangeSchedulerModel", "isNode", "(I)Z"⟩, 5), (⟨"RangeSchedulerModel", "goUp", "()V"⟩, 5)]
theorem lw_r4 : ∀ q ∈ lw_privs_4, lw_okq q := List.forall_mem_cons.mpr ⟨lw_p48, List.forall_mem_cons.mpr ⟨lw_p49, List.forall_mem_cons.mpr ⟨lw_p50, List.forall_mem_cons.mpr ⟨lw_p51, List.forall_mem_cons.mpr ⟨lw_p52, List.forall_mem_cons.mpr ⟨lw_p53, List.forall_mem_cons.mpr ⟨lw_p54, List.forall_mem_cons.mpr ⟨lw_p55, List.forall_mem_cons.mpr ⟨lw_p56, List.forall_mem_cons.mpr ⟨lw_p57, List.forall_mem_cons.mpr ⟨lw_p58, List.forall_mem_cons.mpr ⟨lw_p59, List.forall_mem_cons.mpr ⟨lw_p60, List.forall_mem_cons.mpr ⟨lw_p61, List.forall_mem_cons.mpr ⟨lw_p62, List.forall_mem_cons.mpr ⟨lw_p63, fun _ h => absurd h List.not_mem_nil⟩⟩⟩⟩⟩⟩⟩⟩⟩⟩⟩⟩⟩⟩⟩⟩
theorem lw_p64 : lw_okq (⟨"RangeSchedulerModel", "goDown", "(I)V"⟩, 5) := ⟨⟨by decide +kernel, by decide +kernel⟩, List.mem_of_getElem? (i := 745) (by decide +kernel), List.mem_of_getElem? (i := 952) (by decide +kernel), List.mem_of_getElem? (i := 953) (by decide +kernel)⟩
theorem lw_p65 : lw_okq (⟨"RangeSchedulerModel", "change", "(II)I"⟩, 5) := ⟨⟨by decide +kernel, by decide +kernel⟩, List.mem_of_getElem? (i := 745) (by decide +kernel), List.mem_of_getElem? (i := 960) (by decide +kernel), List.mem_of_getElem? (i := 961) (by decide +kernel)⟩
theorem lw_p66 : lw_okq (⟨"RangeSchedulerModel", "placeOf", "(I)I"⟩, 5) := ⟨⟨by decide +kernel, by decide +kernel⟩, List.mem_of_getElem? (i := 745) (by decide +kernel), List.mem_of_getElem? (i := 983) (by decide +kernel), List.mem_of_getElem? (i := 984) (by decide +kernel)⟩
theorem lw_p67 : lw_okq (⟨"RangeSchedulerModel", "rangeAt", "(I)I"⟩, 5) := ⟨⟨by decide +kernel, by decide +kernel⟩, List.mem_of_getElem? (i := 745) (by decide +kernel), List.mem_of_getElem? (i := 995) (by decide +kernel), List.mem_of_getElem? (i := 996) (by decide +kernel)⟩
theorem lw_p68 : lw_okq (⟨"RangeSchedulerModel", "isRange", "(I)Z"⟩, 5) := ⟨⟨by decide +kernel, by decide +kernel⟩, List.mem_of_getElem? (i := 745) (by decide +kernel), List.mem_of_getElem? (i := 1015) (by decide +kernel), List.mem_of_getElem? (i := 1016) (by decide +kernel)⟩
theorem lw_p69 : lw_okq (⟨"RangeSchedulerModel", "learnerOf", "(I)I"⟩, 5) := ⟨⟨by decide +kernel, by decide +kernel⟩, List.mem_of_getElem? (i := 745) (by decide +kernel), List.mem_of_getElem? (i := 1043) (by decide +kernel), List.mem_of_getElem? (i := 1044) (by decide +kernel)⟩
theorem lw_p70 : lw_okq (⟨"RangeSchedulerModel", "add", "(I)V"⟩, 5) := ⟨⟨by decide +kernel, by decide +kernel⟩, List.mem_of_getElem? (i := 745) (by decide +kernel), List.mem_of_getElem? (i := 1072) (by decide +kernel), List.mem_of_getElem? (i := 1073) (by decide +kernel)⟩
def lw_privs_5 : List (MethodName × Nat) := [(⟨"RangeSchedulerModel", "goDown", "(I)V"⟩, 5), (⟨"RangeSchedulerModel", "change", "(II)I"⟩, 5), (⟨"RangeSchedulerModel", "placeOf", "(I)I"⟩, 5), (⟨"RangeSchedulerModel", "rangeAt", "(I)I"⟩, 5), (⟨"RangeSchedulerModel", "isRange", "(I)Z"⟩, 5), (⟨"RangeSchedulerModel", "learnerOf", "(I)I"⟩, 5), (⟨"RangeSchedulerModel", "add", "(I)V"⟩, 5)]
theorem lw_r5 : ∀ q ∈ lw_privs_5, lw_okq q := List.forall_mem_cons.mpr ⟨lw_p64, List.forall_mem_cons.mpr ⟨lw_p65, List.forall_mem_cons.mpr ⟨lw_p66, List.forall_mem_cons.mpr ⟨lw_p67, List.forall_mem_cons.mpr ⟨lw_p68, List.forall_mem_cons.mpr ⟨lw_p69, List.forall_mem_cons.mpr ⟨lw_p70, fun _ h => absurd h List.not_mem_nil⟩⟩⟩⟩⟩⟩⟩
def lw_privs : List (MethodName × Nat) := lw_privs_1 ++ (lw_privs_2 ++ (lw_privs_3 ++ (lw_privs_4 ++ (lw_privs_5))))
def lw_tbl : List Cond := k2_sels lw_privs ++ tables_1
theorem lw_privs_ok : ∀ q ∈ lw_privs, lw_okq q := by
  show ∀ q ∈ lw_privs_1 ++ (lw_privs_2 ++ (lw_privs_3 ++ (lw_privs_4 ++ (lw_privs_5)))), lw_okq q
  exact List.forall_mem_append.mpr ⟨lw_r1, List.forall_mem_append.mpr ⟨lw_r2, List.forall_mem_append.mpr ⟨lw_r3, List.forall_mem_append.mpr ⟨lw_r4, lw_r5⟩⟩⟩⟩
def RX0 : String := "RangeScheduler$Cluster"
def TX0 : u_T := fun k => match k with
  | 0 => ("RangeScheduler$Cluster", "settings", "LRangeScheduler$Settings;", true)
  | 1 => ("RangeScheduler$Cluster", "nodes", "LRangeScheduler$Nodes;", true)
  | 2 => ("RangeScheduler$Cluster", "ranges", "LRangeScheduler$Ranges;", true)
  | 3 => ("RangeScheduler$Cluster", "items", "LRangeScheduler$Items;", true)
  | 4 => ("RangeScheduler$Cluster", "samples", "LRangeScheduler$Samples;", true)
  | 5 => ("RangeScheduler$Cluster", "performedCounts", "[I", true)
  | _ => ("RangeScheduler$Cluster", "ticksSoFar", "I", false)
def tyX0 : Nat → FieldType := fun k => match k with
  | 0 => .object "RangeScheduler$Settings"
  | 1 => .object "RangeScheduler$Nodes"
  | 2 => .object "RangeScheduler$Ranges"
  | 3 => .object "RangeScheduler$Items"
  | 4 => .object "RangeScheduler$Samples"
  | 5 => .array .int
  | _ => .int
abbrev wsX00 : List Cond := u_ws RX0 TX0 7
theorem nmX0 : ∀ a, a < 7 → ∀ b, b < 7 → a ≠ b → (TX0 a).2.1 ≠ (TX0 b).2.1 := by decide +kernel
theorem tyX0_ok : ∀ k, k < 7 → parseFieldDescriptor (TX0 k).2.2.1 = some (tyX0 k) := by decide +kernel
abbrev cX0_init : ByteArray := prog_2_method_1_code
def yX0_init : MethodName := ⟨RX0, "<init>", "()V"⟩
abbrev cX0_rangeSize : ByteArray := prog_2_method_2_code
def yX0_rangeSize : MethodName := ⟨RX0, "rangeSize", "(I)I"⟩
abbrev cX0_rangeLoad : ByteArray := prog_2_method_3_code
def yX0_rangeLoad : MethodName := ⟨RX0, "rangeLoad", "(I)I"⟩
abbrev cX0_sizeSplitKey : ByteArray := prog_2_method_4_code
def yX0_sizeSplitKey : MethodName := ⟨RX0, "sizeSplitKey", "(I)I"⟩
abbrev cX0_loadSplitKey : ByteArray := prog_2_method_5_code
def yX0_loadSplitKey : MethodName := ⟨RX0, "loadSplitKey", "(I)I"⟩
abbrev cX0_votersUp : ByteArray := prog_2_method_6_code
def yX0_votersUp : MethodName := ⟨RX0, "votersUp", "(I)I"⟩
abbrev cX0_votersDown : ByteArray := prog_2_method_7_code
def yX0_votersDown : MethodName := ⟨RX0, "votersDown", "(I)I"⟩
abbrev cX0_hasQuorum : ByteArray := prog_2_method_8_code
def yX0_hasQuorum : MethodName := ⟨RX0, "hasQuorum", "(I)Z"⟩
abbrev cX0_countAvailable : ByteArray := prog_2_method_9_code
def yX0_countAvailable : MethodName := ⟨RX0, "countAvailable", "()I"⟩
abbrev cX0_leastLeading : ByteArray := prog_2_method_10_code
def yX0_leastLeading : MethodName := ⟨RX0, "leastLeading", "(I)I"⟩
abbrev cX0_elect : ByteArray := prog_2_method_11_code
def yX0_elect : MethodName := ⟨RX0, "elect", "(I)V"⟩
abbrev cX0_bringUp : ByteArray := prog_2_method_12_code
def yX0_bringUp : MethodName := ⟨RX0, "bringUp", "(I)V"⟩
abbrev cX0_takeDown : ByteArray := prog_2_method_13_code
def yX0_takeDown : MethodName := ⟨RX0, "takeDown", "(I)V"⟩
abbrev cX0_copyFrom : ByteArray := prog_2_method_14_code
def yX0_copyFrom : MethodName := ⟨RX0, "copyFrom", "(LRangeScheduler$Cluster;)V"⟩
def RX1 : String := "RangeScheduler$Driver"
def TX1 : u_T := fun k => match k with
  | 0 => ("RangeScheduler$Driver", "cluster", "LRangeScheduler$Cluster;", true)
  | 1 => ("RangeScheduler$Driver", "settings", "LRangeScheduler$Settings;", true)
  | 2 => ("RangeScheduler$Driver", "nodes", "LRangeScheduler$Nodes;", true)
  | _ => ("RangeScheduler$Driver", "ranges", "LRangeScheduler$Ranges;", true)
def tyX1 : Nat → FieldType := fun k => match k with
  | 0 => .object "RangeScheduler$Cluster"
  | 1 => .object "RangeScheduler$Settings"
  | 2 => .object "RangeScheduler$Nodes"
  | _ => .object "RangeScheduler$Ranges"
abbrev wsX10 : List Cond := u_ws RX1 TX1 4
theorem nmX1 : ∀ a, a < 4 → ∀ b, b < 4 → a ≠ b → (TX1 a).2.1 ≠ (TX1 b).2.1 := by decide +kernel
theorem tyX1_ok : ∀ k, k < 4 → parseFieldDescriptor (TX1 k).2.2.1 = some (tyX1 k) := by decide +kernel
abbrev cX1_init : ByteArray := prog_3_method_1_code
def yX1_init : MethodName := ⟨RX1, "<init>", "()V"⟩
abbrev cX1_runTick : ByteArray := prog_3_method_2_code
def yX1_runTick : MethodName := ⟨RX1, "runTick", "()I"⟩
abbrev cX1_advanceLearner : ByteArray := prog_3_method_3_code
def yX1_advanceLearner : MethodName := ⟨RX1, "advanceLearner", "(I)V"⟩
abbrev cX1_perform : ByteArray := prog_3_method_4_code
def yX1_perform : MethodName := ⟨RX1, "perform", "(II)Z"⟩
abbrev cX1_create : ByteArray := prog_3_method_5_code
def yX1_create : MethodName := ⟨RX1, "create", "(I)Z"⟩
abbrev cX1_repair : ByteArray := prog_3_method_6_code
def yX1_repair : MethodName := ⟨RX1, "repair", "(I)Z"⟩
abbrev cX1_spread : ByteArray := prog_3_method_7_code
def yX1_spread : MethodName := ⟨RX1, "spread", "(I)Z"⟩
abbrev cX1_splitBySize : ByteArray := prog_3_method_8_code
def yX1_splitBySize : MethodName := ⟨RX1, "splitBySize", "(I)Z"⟩
abbrev cX1_splitByLoad : ByteArray := prog_3_method_9_code
def yX1_splitByLoad : MethodName := ⟨RX1, "splitByLoad", "(I)Z"⟩
abbrev cX1_divideAt : ByteArray := prog_3_method_10_code
def yX1_divideAt : MethodName := ⟨RX1, "divideAt", "(II)Z"⟩
abbrev cX1_merge : ByteArray := prog_3_method_11_code
def yX1_merge : MethodName := ⟨RX1, "merge", "(I)Z"⟩
abbrev cX1_isCold : ByteArray := prog_3_method_12_code
def yX1_isCold : MethodName := ⟨RX1, "isCold", "(I)Z"⟩
abbrev cX1_shiftLeader : ByteArray := prog_3_method_13_code
def yX1_shiftLeader : MethodName := ⟨RX1, "shiftLeader", "(I)Z"⟩
abbrev cX1_shiftReplica : ByteArray := prog_3_method_14_code
def yX1_shiftReplica : MethodName := ⟨RX1, "shiftReplica", "(I)Z"⟩
abbrev cX1_isWhole : ByteArray := prog_3_method_15_code
def yX1_isWhole : MethodName := ⟨RX1, "isWhole", "(I)Z"⟩
abbrev cX1_teach : ByteArray := prog_3_method_16_code
def yX1_teach : MethodName := ⟨RX1, "teach", "(III)V"⟩
abbrev cX1_choose : ByteArray := prog_3_method_17_code
def yX1_choose : MethodName := ⟨RX1, "choose", "(II)I"⟩
abbrev cX1_isFresh : ByteArray := prog_3_method_18_code
def yX1_isFresh : MethodName := ⟨RX1, "isFresh", "(III)Z"⟩
abbrev cX1_lowestOf : ByteArray := prog_3_method_19_code
def yX1_lowestOf : MethodName := ⟨RX1, "lowestOf", "(I)I"⟩
abbrev cX1_highestSharingZone : ByteArray := prog_3_method_20_code
def yX1_highestSharingZone : MethodName := ⟨RX1, "highestSharingZone", "(I)I"⟩
abbrev cX1_mostLoaded : ByteArray := prog_3_method_21_code
def yX1_mostLoaded : MethodName := ⟨RX1, "mostLoaded", "(I)I"⟩
def RX2 : String := "RangeScheduler$History"
def TX2 : u_T := fun k => match k with
  | 0 => ("RangeScheduler$History", "count", "I", false)
  | 1 => ("RangeScheduler$History", "next", "I", false)
  | _ => ("RangeScheduler$History", "slots", "[LRangeScheduler$Cluster;", true)
def tyX2 : Nat → FieldType := fun k => match k with
  | 0 => .int
  | 1 => .int
  | _ => .array (.object "RangeScheduler$Cluster")
abbrev wsX20 : List Cond := u_ws RX2 TX2 3
theorem nmX2 : ∀ a, a < 3 → ∀ b, b < 3 → a ≠ b → (TX2 a).2.1 ≠ (TX2 b).2.1 := by decide +kernel
theorem tyX2_ok : ∀ k, k < 3 → parseFieldDescriptor (TX2 k).2.2.1 = some (tyX2 k) := by decide +kernel
abbrev cX2_init : ByteArray := prog_4_method_1_code
def yX2_init : MethodName := ⟨RX2, "<init>", "()V"⟩
abbrev cX2_save : ByteArray := prog_4_method_2_code
def yX2_save : MethodName := ⟨RX2, "save", "(LRangeScheduler$Cluster;)V"⟩
abbrev cX2_restoreInto : ByteArray := prog_4_method_3_code
def yX2_restoreInto : MethodName := ⟨RX2, "restoreInto", "(LRangeScheduler$Cluster;)V"⟩
def RX3 : String := "RangeScheduler$Items"
def TX3 : u_T := fun k => match k with
  | 0 => ("RangeScheduler$Items", "count", "I", false)
  | 1 => ("RangeScheduler$Items", "keys", "[I", true)
  | _ => ("RangeScheduler$Items", "sizes", "[I", true)
def tyX3 : Nat → FieldType := fun k => match k with
  | 0 => .int
  | 1 => .array .int
  | _ => .array .int
abbrev wsX30 : List Cond := u_ws RX3 TX3 3
theorem nmX3 : ∀ a, a < 3 → ∀ b, b < 3 → a ≠ b → (TX3 a).2.1 ≠ (TX3 b).2.1 := by decide +kernel
theorem tyX3_ok : ∀ k, k < 3 → parseFieldDescriptor (TX3 k).2.2.1 = some (tyX3 k) := by decide +kernel
abbrev cX3_init : ByteArray := prog_5_method_1_code
def yX3_init : MethodName := ⟨RX3, "<init>", "()V"⟩
abbrev cX3_placeOf : ByteArray := prog_5_method_2_code
def yX3_placeOf : MethodName := ⟨RX3, "placeOf", "(I)I"⟩
abbrev cX3_isAt : ByteArray := prog_5_method_3_code
def yX3_isAt : MethodName := ⟨RX3, "isAt", "(II)Z"⟩
abbrev cX3_sizeAt : ByteArray := prog_5_method_4_code
def yX3_sizeAt : MethodName := ⟨RX3, "sizeAt", "(I)I"⟩
abbrev cX3_store : ByteArray := prog_5_method_5_code
def yX3_store : MethodName := ⟨RX3, "store", "(II)V"⟩
abbrev cX3_erase : ByteArray := prog_5_method_6_code
def yX3_erase : MethodName := ⟨RX3, "erase", "(I)V"⟩
abbrev cX3_sumBetween : ByteArray := prog_5_method_7_code
def yX3_sumBetween : MethodName := ⟨RX3, "sumBetween", "(II)I"⟩
abbrev cX3_splitKeyBetween : ByteArray := prog_5_method_8_code
def yX3_splitKeyBetween : MethodName := ⟨RX3, "splitKeyBetween", "(II)I"⟩
abbrev cX3_copyFrom : ByteArray := prog_5_method_9_code
def yX3_copyFrom : MethodName := ⟨RX3, "copyFrom", "(LRangeScheduler$Items;)V"⟩
def RX4 : String := "RangeScheduler$Nodes"
def TX4 : u_T := fun k => match k with
  | 0 => ("RangeScheduler$Nodes", "count", "I", false)
  | 1 => ("RangeScheduler$Nodes", "upMask", "I", false)
  | 2 => ("RangeScheduler$Nodes", "zones", "[I", true)
  | _ => ("RangeScheduler$Nodes", "capacities", "[I", true)
def tyX4 : Nat → FieldType := fun k => match k with
  | 0 => .int
  | 1 => .int
  | 2 => .array .int
  | _ => .array .int
abbrev wsX40 : List Cond := u_ws RX4 TX4 4
theorem nmX4 : ∀ a, a < 4 → ∀ b, b < 4 → a ≠ b → (TX4 a).2.1 ≠ (TX4 b).2.1 := by decide +kernel
theorem tyX4_ok : ∀ k, k < 4 → parseFieldDescriptor (TX4 k).2.2.1 = some (tyX4 k) := by decide +kernel
abbrev cX4_init : ByteArray := prog_6_method_1_code
def yX4_init : MethodName := ⟨RX4, "<init>", "()V"⟩
abbrev cX4_exists : ByteArray := prog_6_method_2_code
def yX4_exists : MethodName := ⟨RX4, "exists", "(I)Z"⟩
abbrev cX4_isUp : ByteArray := prog_6_method_3_code
def yX4_isUp : MethodName := ⟨RX4, "isUp", "(I)Z"⟩
abbrev cX4_append : ByteArray := prog_6_method_4_code
def yX4_append : MethodName := ⟨RX4, "append", "(II)I"⟩
abbrev cX4_zonesOf : ByteArray := prog_6_method_5_code
def yX4_zonesOf : MethodName := ⟨RX4, "zonesOf", "(I)I"⟩
abbrev cX4_copyFrom : ByteArray := prog_6_method_6_code
def yX4_copyFrom : MethodName := ⟨RX4, "copyFrom", "(LRangeScheduler$Nodes;)V"⟩
def RX5 : String := "RangeScheduler$Ranges"
def TX5 : u_T := fun k => match k with
  | 0 => ("RangeScheduler$Ranges", "count", "I", false)
  | 1 => ("RangeScheduler$Ranges", "starts", "[I", true)
  | 2 => ("RangeScheduler$Ranges", "voterMasks", "[I", true)
  | 3 => ("RangeScheduler$Ranges", "leaderNodes", "[I", true)
  | 4 => ("RangeScheduler$Ranges", "learnerNodes", "[I", true)
  | 5 => ("RangeScheduler$Ranges", "remainingTicks", "[I", true)
  | _ => ("RangeScheduler$Ranges", "replacedNodes", "[I", true)
def tyX5 : Nat → FieldType := fun k => match k with
  | 0 => .int
  | 1 => .array .int
  | 2 => .array .int
  | 3 => .array .int
  | 4 => .array .int
  | 5 => .array .int
  | _ => .array .int
abbrev wsX50 : List Cond := u_ws RX5 TX5 7
theorem nmX5 : ∀ a, a < 7 → ∀ b, b < 7 → a ≠ b → (TX5 a).2.1 ≠ (TX5 b).2.1 := by decide +kernel
theorem tyX5_ok : ∀ k, k < 7 → parseFieldDescriptor (TX5 k).2.2.1 = some (tyX5 k) := by decide +kernel
abbrev cX5_init : ByteArray := prog_7_method_1_code
def yX5_init : MethodName := ⟨RX5, "<init>", "()V"⟩
abbrev cX5_exists : ByteArray := prog_7_method_2_code
def yX5_exists : MethodName := ⟨RX5, "exists", "(I)Z"⟩
abbrev cX5_isFull : ByteArray := prog_7_method_3_code
def yX5_isFull : MethodName := ⟨RX5, "isFull", "()Z"⟩
abbrev cX5_holding : ByteArray := prog_7_method_4_code
def yX5_holding : MethodName := ⟨RX5, "holding", "(I)I"⟩
abbrev cX5_endOf : ByteArray := prog_7_method_5_code
def yX5_endOf : MethodName := ⟨RX5, "endOf", "(I)I"⟩
abbrev cX5_hasLearner : ByteArray := prog_7_method_6_code
def yX5_hasLearner : MethodName := ⟨RX5, "hasLearner", "(I)Z"⟩
abbrev cX5_anyLearner : ByteArray := prog_7_method_7_code
def yX5_anyLearner : MethodName := ⟨RX5, "anyLearner", "()Z"⟩
abbrev cX5_learnerCode : ByteArray := prog_7_method_8_code
def yX5_learnerCode : MethodName := ⟨RX5, "learnerCode", "(I)I"⟩
abbrev cX5_setLearner : ByteArray := prog_7_method_9_code
def yX5_setLearner : MethodName := ⟨RX5, "setLearner", "(IIII)V"⟩
abbrev cX5_clearLearner : ByteArray := prog_7_method_10_code
def yX5_clearLearner : MethodName := ⟨RX5, "clearLearner", "(I)V"⟩
abbrev cX5_replicasOn : ByteArray := prog_7_method_11_code
def yX5_replicasOn : MethodName := ⟨RX5, "replicasOn", "(I)I"⟩
abbrev cX5_ledBy : ByteArray := prog_7_method_12_code
def yX5_ledBy : MethodName := ⟨RX5, "ledBy", "(I)I"⟩
abbrev cX5_divide : ByteArray := prog_7_method_13_code
def yX5_divide : MethodName := ⟨RX5, "divide", "(II)V"⟩
abbrev cX5_absorbNext : ByteArray := prog_7_method_14_code
def yX5_absorbNext : MethodName := ⟨RX5, "absorbNext", "(I)V"⟩
abbrev cX5_copyWithin : ByteArray := prog_7_method_15_code
def yX5_copyWithin : MethodName := ⟨RX5, "copyWithin", "(II)V"⟩
abbrev cX5_copyFrom : ByteArray := prog_7_method_16_code
def yX5_copyFrom : MethodName := ⟨RX5, "copyFrom", "(LRangeScheduler$Ranges;)V"⟩
def RX6 : String := "RangeScheduler$Samples"
def TX6 : u_T := fun k => match k with
  | 0 => ("RangeScheduler$Samples", "count", "I", false)
  | _ => ("RangeScheduler$Samples", "keys", "[I", true)
def tyX6 : Nat → FieldType := fun k => match k with
  | 0 => .int
  | _ => .array .int
abbrev wsX60 : List Cond := u_ws RX6 TX6 2
theorem nmX6 : ∀ a, a < 2 → ∀ b, b < 2 → a ≠ b → (TX6 a).2.1 ≠ (TX6 b).2.1 := by decide +kernel
theorem tyX6_ok : ∀ k, k < 2 → parseFieldDescriptor (TX6 k).2.2.1 = some (tyX6 k) := by decide +kernel
abbrev cX6_init : ByteArray := prog_8_method_1_code
def yX6_init : MethodName := ⟨RX6, "<init>", "()V"⟩
abbrev cX6_append : ByteArray := prog_8_method_2_code
def yX6_append : MethodName := ⟨RX6, "append", "(I)V"⟩
abbrev cX6_countBetween : ByteArray := prog_8_method_3_code
def yX6_countBetween : MethodName := ⟨RX6, "countBetween", "(II)I"⟩
abbrev cX6_leastBetween : ByteArray := prog_8_method_4_code
def yX6_leastBetween : MethodName := ⟨RX6, "leastBetween", "(II)I"⟩
abbrev cX6_splitKeyBetween : ByteArray := prog_8_method_5_code
def yX6_splitKeyBetween : MethodName := ⟨RX6, "splitKeyBetween", "(II)I"⟩
abbrev cX6_copyFrom : ByteArray := prog_8_method_6_code
def yX6_copyFrom : MethodName := ⟨RX6, "copyFrom", "(LRangeScheduler$Samples;)V"⟩
def RX7 : String := "RangeScheduler$Settings"
def TX7 : u_T := fun k => match k with
  | 0 => ("RangeScheduler$Settings", "replication", "I", false)
  | 1 => ("RangeScheduler$Settings", "minimumSize", "I", false)
  | 2 => ("RangeScheduler$Settings", "maximumSize", "I", false)
  | 3 => ("RangeScheduler$Settings", "minimumLoad", "I", false)
  | 4 => ("RangeScheduler$Settings", "maximumLoad", "I", false)
  | _ => ("RangeScheduler$Settings", "speed", "I", false)
def tyX7 : Nat → FieldType := fun k => match k with
  | 0 => .int
  | 1 => .int
  | 2 => .int
  | 3 => .int
  | 4 => .int
  | _ => .int
abbrev wsX70 : List Cond := u_ws RX7 TX7 6
theorem nmX7 : ∀ a, a < 6 → ∀ b, b < 6 → a ≠ b → (TX7 a).2.1 ≠ (TX7 b).2.1 := by decide +kernel
theorem tyX7_ok : ∀ k, k < 6 → parseFieldDescriptor (TX7 k).2.2.1 = some (tyX7 k) := by decide +kernel
abbrev cX7_init : ByteArray := prog_9_method_1_code
def yX7_init : MethodName := ⟨RX7, "<init>", "()V"⟩
abbrev cX7_learnerTicks : ByteArray := prog_9_method_2_code
def yX7_learnerTicks : MethodName := ⟨RX7, "learnerTicks", "(I)I"⟩
abbrev cX7_copyFrom : ByteArray := prog_9_method_3_code
def yX7_copyFrom : MethodName := ⟨RX7, "copyFrom", "(LRangeScheduler$Settings;)V"⟩
def RX8 : String := "RangeScheduler"
def TX8 : u_T := fun k => match k with
  | 0 => ("RangeScheduler", "driver", "LRangeScheduler$Driver;", true)
  | 1 => ("RangeScheduler", "cluster", "LRangeScheduler$Cluster;", true)
  | 2 => ("RangeScheduler", "history", "LRangeScheduler$History;", true)
  | 3 => ("RangeScheduler", "invalidCalls", "I", false)
  | 4 => ("RangeScheduler", "rejectedCalls", "I", false)
  | _ => ("RangeScheduler", "fullCalls", "I", false)
def tyX8 : Nat → FieldType := fun k => match k with
  | 0 => .object "RangeScheduler$Driver"
  | 1 => .object "RangeScheduler$Cluster"
  | 2 => .object "RangeScheduler$History"
  | 3 => .int
  | 4 => .int
  | _ => .int
abbrev wsX80 : List Cond := u_ws RX8 TX8 6
theorem nmX8 : ∀ a, a < 6 → ∀ b, b < 6 → a ≠ b → (TX8 a).2.1 ≠ (TX8 b).2.1 := by decide +kernel
theorem tyX8_ok : ∀ k, k < 6 → parseFieldDescriptor (TX8 k).2.2.1 = some (tyX8 k) := by decide +kernel
abbrev cX8_init : ByteArray := prog_1_method_1_code
def yX8_init : MethodName := ⟨RX8, "<init>", "()V"⟩
abbrev cX8_addNode : ByteArray := prog_1_method_2_code
def yX8_addNode : MethodName := ⟨RX8, "addNode", "(II)I"⟩
abbrev cX8_setNode : ByteArray := prog_1_method_3_code
def yX8_setNode : MethodName := ⟨RX8, "setNode", "(II)I"⟩
abbrev cX8_setReplication : ByteArray := prog_1_method_4_code
def yX8_setReplication : MethodName := ⟨RX8, "setReplication", "(I)I"⟩
abbrev cX8_setSizes : ByteArray := prog_1_method_5_code
def yX8_setSizes : MethodName := ⟨RX8, "setSizes", "(II)I"⟩
abbrev cX8_setLoads : ByteArray := prog_1_method_6_code
def yX8_setLoads : MethodName := ⟨RX8, "setLoads", "(II)I"⟩
abbrev cX8_setSpeed : ByteArray := prog_1_method_7_code
def yX8_setSpeed : MethodName := ⟨RX8, "setSpeed", "(I)I"⟩
abbrev cX8_put : ByteArray := prog_1_method_8_code
def yX8_put : MethodName := ⟨RX8, "put", "(II)I"⟩
abbrev cX8_remove : ByteArray := prog_1_method_9_code
def yX8_remove : MethodName := ⟨RX8, "remove", "(I)I"⟩
abbrev cX8_access : ByteArray := prog_1_method_10_code
def yX8_access : MethodName := ⟨RX8, "access", "(I)I"⟩
abbrev cX8_splitAt : ByteArray := prog_1_method_11_code
def yX8_splitAt : MethodName := ⟨RX8, "splitAt", "(I)I"⟩
abbrev cX8_sizeOf : ByteArray := prog_1_method_12_code
def yX8_sizeOf : MethodName := ⟨RX8, "sizeOf", "(I)I"⟩
abbrev cX8_tick : ByteArray := prog_1_method_13_code
def yX8_tick : MethodName := ⟨RX8, "tick", "()I"⟩
abbrev cX8_settle : ByteArray := prog_1_method_14_code
def yX8_settle : MethodName := ⟨RX8, "settle", "(I)I"⟩
abbrev cX8_performed : ByteArray := prog_1_method_15_code
def yX8_performed : MethodName := ⟨RX8, "performed", "(I)I"⟩
abbrev cX8_time : ByteArray := prog_1_method_16_code
def yX8_time : MethodName := ⟨RX8, "time", "()I"⟩
abbrev cX8_rangeCount : ByteArray := prog_1_method_17_code
def yX8_rangeCount : MethodName := ⟨RX8, "rangeCount", "()I"⟩
abbrev cX8_start : ByteArray := prog_1_method_18_code
def yX8_start : MethodName := ⟨RX8, "start", "(I)I"⟩
abbrev cX8_size : ByteArray := prog_1_method_19_code
def yX8_size : MethodName := ⟨RX8, "size", "(I)I"⟩
abbrev cX8_load : ByteArray := prog_1_method_20_code
def yX8_load : MethodName := ⟨RX8, "load", "(I)I"⟩
abbrev cX8_rangeOf : ByteArray := prog_1_method_21_code
def yX8_rangeOf : MethodName := ⟨RX8, "rangeOf", "(I)I"⟩
abbrev cX8_voters : ByteArray := prog_1_method_22_code
def yX8_voters : MethodName := ⟨RX8, "voters", "(I)I"⟩
abbrev cX8_leader : ByteArray := prog_1_method_23_code
def yX8_leader : MethodName := ⟨RX8, "leader", "(I)I"⟩
abbrev cX8_learner : ByteArray := prog_1_method_24_code
def yX8_learner : MethodName := ⟨RX8, "learner", "(I)I"⟩
abbrev cX8_isAvailable : ByteArray := prog_1_method_25_code
def yX8_isAvailable : MethodName := ⟨RX8, "isAvailable", "(I)I"⟩
abbrev cX8_splitKey : ByteArray := prog_1_method_26_code
def yX8_splitKey : MethodName := ⟨RX8, "splitKey", "(II)I"⟩
abbrev cX8_replicas : ByteArray := prog_1_method_27_code
def yX8_replicas : MethodName := ⟨RX8, "replicas", "(I)I"⟩
abbrev cX8_leaders : ByteArray := prog_1_method_28_code
def yX8_leaders : MethodName := ⟨RX8, "leaders", "(I)I"⟩
abbrev cX8_undo : ByteArray := prog_1_method_29_code
def yX8_undo : MethodName := ⟨RX8, "undo", "()I"⟩
abbrev cX8_errorCount : ByteArray := prog_1_method_30_code
def yX8_errorCount : MethodName := ⟨RX8, "errorCount", "(I)I"⟩
abbrev cX8_digest : ByteArray := prog_1_method_31_code
def yX8_digest : MethodName := ⟨RX8, "digest", "()J"⟩
abbrev cX8_mixSettings : ByteArray := prog_1_method_32_code
def yX8_mixSettings : MethodName := ⟨RX8, "mixSettings", "(J)J"⟩
abbrev cX8_mixNodes : ByteArray := prog_1_method_33_code
def yX8_mixNodes : MethodName := ⟨RX8, "mixNodes", "(J)J"⟩
abbrev cX8_mixRanges : ByteArray := prog_1_method_34_code
def yX8_mixRanges : MethodName := ⟨RX8, "mixRanges", "(J)J"⟩
abbrev cX8_mixRow : ByteArray := prog_1_method_35_code
def yX8_mixRow : MethodName := ⟨RX8, "mixRow", "(JI[I)J"⟩
abbrev cX8_mix : ByteArray := prog_1_method_36_code
def yX8_mix : MethodName := ⟨RX8, "mix", "(JI)J"⟩
abbrev cX8_fail : ByteArray := prog_1_method_37_code
def yX8_fail : MethodName := ⟨RX8, "fail", "(I)I"⟩
abbrev cX8_isWithin : ByteArray := prog_1_method_38_code
def yX8_isWithin : MethodName := ⟨RX8, "isWithin", "(III)Z"⟩
abbrev cX8_isKey : ByteArray := prog_1_method_39_code
def yX8_isKey : MethodName := ⟨RX8, "isKey", "(I)Z"⟩
abbrev cX8_bit : ByteArray := prog_1_method_40_code
def yX8_bit : MethodName := ⟨RX8, "bit", "(I)I"⟩
abbrev cX8_copyRow : ByteArray := prog_1_method_41_code
def yX8_copyRow : MethodName := ⟨RX8, "copyRow", "([I[I)V"⟩
def RX9 : String := "RangeSchedulerModel"
def TX9 : u_T := fun k => match k with
  | 0 => ("RangeSchedulerModel", "s", "[I", true)
  | 1 => ("RangeSchedulerModel", "past", "[I", true)
  | 2 => ("RangeSchedulerModel", "pasts", "I", false)
  | 3 => ("RangeSchedulerModel", "errors", "[I", true)
  | _ => ("RangeSchedulerModel", "hash", "J", false)
def tyX9 : Nat → FieldType := fun k => match k with
  | 0 => .array .int
  | 1 => .array .int
  | 2 => .int
  | 3 => .array .int
  | _ => .long
abbrev wsX90 : List Cond := u_ws RX9 TX9 5
theorem nmX9 : ∀ a, a < 5 → ∀ b, b < 5 → a ≠ b → (TX9 a).2.1 ≠ (TX9 b).2.1 := by decide +kernel
theorem tyX9_ok : ∀ k, k < 5 → parseFieldDescriptor (TX9 k).2.2.1 = some (tyX9 k) := by decide +kernel
abbrev cX9_init : ByteArray := prog_11_method_1_code
def yX9_init : MethodName := ⟨RX9, "<init>", "()V"⟩
abbrev cX9_in : ByteArray := prog_11_method_3_code
def yX9_in : MethodName := ⟨RX9, "in", "(III)Z"⟩
abbrev cX9_has : ByteArray := prog_11_method_4_code
def yX9_has : MethodName := ⟨RX9, "has", "(II)Z"⟩
abbrev cX9_count : ByteArray := prog_11_method_5_code
def yX9_count : MethodName := ⟨RX9, "count", "(I)I"⟩
abbrev cX9_fail : ByteArray := prog_11_method_6_code
def yX9_fail : MethodName := ⟨RX9, "fail", "(I)I"⟩
abbrev cX9_note : ByteArray := prog_11_method_7_code
def yX9_note : MethodName := ⟨RX9, "note", "()V"⟩
abbrev cX9_undo : ByteArray := prog_11_method_8_code
def yX9_undo : MethodName := ⟨RX9, "undo", "()I"⟩
abbrev cX9_of : ByteArray := prog_11_method_9_code
def yX9_of : MethodName := ⟨RX9, "of", "(II)I"⟩
abbrev cX9_set : ByteArray := prog_11_method_10_code
def yX9_set : MethodName := ⟨RX9, "set", "(III)V"⟩
abbrev cX9_isNode : ByteArray := prog_11_method_11_code
def yX9_isNode : MethodName := ⟨RX9, "isNode", "(I)Z"⟩
abbrev cX9_isRange : ByteArray := prog_11_method_12_code
def yX9_isRange : MethodName := ⟨RX9, "isRange", "(I)Z"⟩
abbrev cX9_isKey : ByteArray := prog_11_method_13_code
def yX9_isKey : MethodName := ⟨RX9, "isKey", "(I)Z"⟩
abbrev cX9_zone : ByteArray := prog_11_method_14_code
def yX9_zone : MethodName := ⟨RX9, "zone", "(I)I"⟩
abbrev cX9_isUp : ByteArray := prog_11_method_15_code
def yX9_isUp : MethodName := ⟨RX9, "isUp", "(I)Z"⟩
abbrev cX9_ups : ByteArray := prog_11_method_16_code
def yX9_ups : MethodName := ⟨RX9, "ups", "()I"⟩
abbrev cX9_available : ByteArray := prog_11_method_17_code
def yX9_available : MethodName := ⟨RX9, "available", "(I)Z"⟩
abbrev cX9_replicasOf : ByteArray := prog_11_method_18_code
def yX9_replicasOf : MethodName := ⟨RX9, "replicasOf", "(I)I"⟩
abbrev cX9_leads : ByteArray := prog_11_method_19_code
def yX9_leads : MethodName := ⟨RX9, "leads", "(II)I"⟩
abbrev cX9_elect : ByteArray := prog_11_method_20_code
def yX9_elect : MethodName := ⟨RX9, "elect", "(I)V"⟩
abbrev cX9_isFresh : ByteArray := prog_11_method_21_code
def yX9_isFresh : MethodName := ⟨RX9, "isFresh", "(III)Z"⟩
abbrev cX9_choose : ByteArray := prog_11_method_22_code
def yX9_choose : MethodName := ⟨RX9, "choose", "(II)I"⟩
abbrev cX9_end : ByteArray := prog_11_method_23_code
def yX9_end : MethodName := ⟨RX9, "end", "(I)I"⟩
abbrev cX9_isIn : ByteArray := prog_11_method_24_code
def yX9_isIn : MethodName := ⟨RX9, "isIn", "(II)Z"⟩
abbrev cX9_placeOf : ByteArray := prog_11_method_25_code
def yX9_placeOf : MethodName := ⟨RX9, "placeOf", "(I)I"⟩
abbrev cX9_below : ByteArray := prog_11_method_26_code
def yX9_below : MethodName := ⟨RX9, "below", "(III)I"⟩
abbrev cX9_all : ByteArray := prog_11_method_27_code
def yX9_all : MethodName := ⟨RX9, "all", "(II)I"⟩
abbrev cX9_splitKeyOf : ByteArray := prog_11_method_28_code
def yX9_splitKeyOf : MethodName := ⟨RX9, "splitKeyOf", "(II)I"⟩
abbrev cX9_rangeAt : ByteArray := prog_11_method_29_code
def yX9_rangeAt : MethodName := ⟨RX9, "rangeAt", "(I)I"⟩
abbrev cX9_split : ByteArray := prog_11_method_30_code
def yX9_split : MethodName := ⟨RX9, "split", "(II)V"⟩
abbrev cX9_mergeNextInto : ByteArray := prog_11_method_31_code
def yX9_mergeNextInto : MethodName := ⟨RX9, "mergeNextInto", "(I)V"⟩
abbrev cX9_learn : ByteArray := prog_11_method_32_code
def yX9_learn : MethodName := ⟨RX9, "learn", "(III)V"⟩
abbrev cX9_forgetLearner : ByteArray := prog_11_method_33_code
def yX9_forgetLearner : MethodName := ⟨RX9, "forgetLearner", "(I)V"⟩
abbrev cX9_progress : ByteArray := prog_11_method_34_code
def yX9_progress : MethodName := ⟨RX9, "progress", "(I)V"⟩
abbrev cX9_create : ByteArray := prog_11_method_35_code
def yX9_create : MethodName := ⟨RX9, "create", "(I)Z"⟩
abbrev cX9_isWhole : ByteArray := prog_11_method_36_code
def yX9_isWhole : MethodName := ⟨RX9, "isWhole", "(I)Z"⟩
abbrev cX9_repair : ByteArray := prog_11_method_37_code
def yX9_repair : MethodName := ⟨RX9, "repair", "(I)Z"⟩
abbrev cX9_spread : ByteArray := prog_11_method_38_code
def yX9_spread : MethodName := ⟨RX9, "spread", "(I)Z"⟩
abbrev cX9_splitBy : ByteArray := prog_11_method_39_code
def yX9_splitBy : MethodName := ⟨RX9, "splitBy", "(II)Z"⟩
abbrev cX9_isCold : ByteArray := prog_11_method_40_code
def yX9_isCold : MethodName := ⟨RX9, "isCold", "(I)Z"⟩
abbrev cX9_mergeNext : ByteArray := prog_11_method_41_code
def yX9_mergeNext : MethodName := ⟨RX9, "mergeNext", "(I)Z"⟩
abbrev cX9_shiftLeader : ByteArray := prog_11_method_42_code
def yX9_shiftLeader : MethodName := ⟨RX9, "shiftLeader", "(I)Z"⟩
abbrev cX9_shiftReplica : ByteArray := prog_11_method_43_code
def yX9_shiftReplica : MethodName := ⟨RX9, "shiftReplica", "(I)Z"⟩
abbrev cX9_does : ByteArray := prog_11_method_44_code
def yX9_does : MethodName := ⟨RX9, "does", "(II)Z"⟩
abbrev cX9_oneTick : ByteArray := prog_11_method_45_code
def yX9_oneTick : MethodName := ⟨RX9, "oneTick", "()I"⟩
abbrev cX9_tick : ByteArray := prog_11_method_46_code
def yX9_tick : MethodName := ⟨RX9, "tick", "()I"⟩
abbrev cX9_hasLearner : ByteArray := prog_11_method_47_code
def yX9_hasLearner : MethodName := ⟨RX9, "hasLearner", "()Z"⟩
abbrev cX9_settle : ByteArray := prog_11_method_48_code
def yX9_settle : MethodName := ⟨RX9, "settle", "(I)I"⟩
abbrev cX9_performed : ByteArray := prog_11_method_49_code
def yX9_performed : MethodName := ⟨RX9, "performed", "(I)I"⟩
abbrev cX9_time : ByteArray := prog_11_method_50_code
def yX9_time : MethodName := ⟨RX9, "time", "()I"⟩
abbrev cX9_addNode : ByteArray := prog_11_method_51_code
def yX9_addNode : MethodName := ⟨RX9, "addNode", "(II)I"⟩
abbrev cX9_goDown : ByteArray := prog_11_method_52_code
def yX9_goDown : MethodName := ⟨RX9, "goDown", "(I)V"⟩
abbrev cX9_goUp : ByteArray := prog_11_method_53_code
def yX9_goUp : MethodName := ⟨RX9, "goUp", "()V"⟩
abbrev cX9_setNode : ByteArray := prog_11_method_54_code
def yX9_setNode : MethodName := ⟨RX9, "setNode", "(II)I"⟩
abbrev cX9_change : ByteArray := prog_11_method_55_code
def yX9_change : MethodName := ⟨RX9, "change", "(II)I"⟩
abbrev cX9_setReplication : ByteArray := prog_11_method_56_code
def yX9_setReplication : MethodName := ⟨RX9, "setReplication", "(I)I"⟩
abbrev cX9_setSizes : ByteArray := prog_11_method_57_code
def yX9_setSizes : MethodName := ⟨RX9, "setSizes", "(II)I"⟩
abbrev cX9_setLoads : ByteArray := prog_11_method_58_code
def yX9_setLoads : MethodName := ⟨RX9, "setLoads", "(II)I"⟩
abbrev cX9_setSpeed : ByteArray := prog_11_method_59_code
def yX9_setSpeed : MethodName := ⟨RX9, "setSpeed", "(I)I"⟩
abbrev cX9_put : ByteArray := prog_11_method_60_code
def yX9_put : MethodName := ⟨RX9, "put", "(II)I"⟩
abbrev cX9_remove : ByteArray := prog_11_method_61_code
def yX9_remove : MethodName := ⟨RX9, "remove", "(I)I"⟩
abbrev cX9_access : ByteArray := prog_11_method_62_code
def yX9_access : MethodName := ⟨RX9, "access", "(I)I"⟩
abbrev cX9_splitAt : ByteArray := prog_11_method_63_code
def yX9_splitAt : MethodName := ⟨RX9, "splitAt", "(I)I"⟩
abbrev cX9_sizeOf : ByteArray := prog_11_method_64_code
def yX9_sizeOf : MethodName := ⟨RX9, "sizeOf", "(I)I"⟩
abbrev cX9_rangeCount : ByteArray := prog_11_method_65_code
def yX9_rangeCount : MethodName := ⟨RX9, "rangeCount", "()I"⟩
abbrev cX9_start : ByteArray := prog_11_method_66_code
def yX9_start : MethodName := ⟨RX9, "start", "(I)I"⟩
abbrev cX9_size : ByteArray := prog_11_method_67_code
def yX9_size : MethodName := ⟨RX9, "size", "(I)I"⟩
abbrev cX9_load : ByteArray := prog_11_method_68_code
def yX9_load : MethodName := ⟨RX9, "load", "(I)I"⟩
abbrev cX9_rangeOf : ByteArray := prog_11_method_69_code
def yX9_rangeOf : MethodName := ⟨RX9, "rangeOf", "(I)I"⟩
abbrev cX9_voters : ByteArray := prog_11_method_70_code
def yX9_voters : MethodName := ⟨RX9, "voters", "(I)I"⟩
abbrev cX9_leader : ByteArray := prog_11_method_71_code
def yX9_leader : MethodName := ⟨RX9, "leader", "(I)I"⟩
abbrev cX9_learnerOf : ByteArray := prog_11_method_72_code
def yX9_learnerOf : MethodName := ⟨RX9, "learnerOf", "(I)I"⟩
abbrev cX9_learner : ByteArray := prog_11_method_73_code
def yX9_learner : MethodName := ⟨RX9, "learner", "(I)I"⟩
abbrev cX9_isAvailable : ByteArray := prog_11_method_74_code
def yX9_isAvailable : MethodName := ⟨RX9, "isAvailable", "(I)I"⟩
abbrev cX9_splitKey : ByteArray := prog_11_method_75_code
def yX9_splitKey : MethodName := ⟨RX9, "splitKey", "(II)I"⟩
abbrev cX9_replicas : ByteArray := prog_11_method_76_code
def yX9_replicas : MethodName := ⟨RX9, "replicas", "(I)I"⟩
abbrev cX9_leaders : ByteArray := prog_11_method_77_code
def yX9_leaders : MethodName := ⟨RX9, "leaders", "(I)I"⟩
abbrev cX9_errorCount : ByteArray := prog_11_method_78_code
def yX9_errorCount : MethodName := ⟨RX9, "errorCount", "(I)I"⟩
abbrev cX9_add : ByteArray := prog_11_method_79_code
def yX9_add : MethodName := ⟨RX9, "add", "(I)V"⟩
abbrev cX9_digest : ByteArray := prog_11_method_80_code
def yX9_digest : MethodName := ⟨RX9, "digest", "()J"⟩
def RJ6 : String := "java/lang/Integer"
def TJ6 : u_T := fun k => match k with
  | _ => ("", "", "", false)
def tyJ6 : Nat → FieldType := fun k => match k with
  | _ => .int
abbrev wsJ60 : List Cond := u_ws RJ6 TJ6 0
theorem nmJ6 : ∀ a, a < 0 → ∀ b, b < 0 → a ≠ b → (TJ6 a).2.1 ≠ (TJ6 b).2.1 := by decide +kernel
theorem tyJ6_ok : ∀ k, k < 0 → parseFieldDescriptor (TJ6 k).2.2.1 = some (tyJ6 k) := by decide +kernel
abbrev cJ6_bitCount_0f7a4 : ByteArray := prog_12_method_49_code
def yJ6_bitCount_0f7a4 : MethodName := ⟨RJ6, "bitCount", "(I)I"⟩
def RJ9 : String := "java/lang/Math"
def TJ9 : u_T := fun k => match k with
  | _ => ("", "", "", false)
def tyJ9 : Nat → FieldType := fun k => match k with
  | _ => .int
abbrev wsJ90 : List Cond := u_ws RJ9 TJ9 0
theorem nmJ9 : ∀ a, a < 0 → ∀ b, b < 0 → a ≠ b → (TJ9 a).2.1 ≠ (TJ9 b).2.1 := by decide +kernel
theorem tyJ9_ok : ∀ k, k < 0 → parseFieldDescriptor (TJ9 k).2.2.1 = some (tyJ9 k) := by decide +kernel
abbrev cJ9_min_7cf53 : ByteArray := prog_13_method_69_code
def yJ9_min_7cf53 : MethodName := ⟨RJ9, "min", "(II)I"⟩
def RJ10 : String := "java/lang/System"
def TJ10 : u_T := fun k => match k with
  | _ => ("", "", "", false)
def tyJ10 : Nat → FieldType := fun k => match k with
  | _ => .int
abbrev wsJ100 : List Cond := u_ws RJ10 TJ10 0
theorem nmJ10 : ∀ a, a < 0 → ∀ b, b < 0 → a ≠ b → (TJ10 a).2.1 ≠ (TJ10 b).2.1 := by decide +kernel
theorem tyJ10_ok : ∀ k, k < 0 → parseFieldDescriptor (TJ10 k).2.2.1 = some (tyJ10 k) := by decide +kernel
def RL : String := "RangeSchedulerLaw"
abbrev cL_law : ByteArray := code
def yL_law : MethodName := ⟨RL, "law", "([I)Z"⟩
abbrev vwCl : List vw_C := [(RX0, TX0, 7), (RX1, TX1, 4), (RX2, TX2, 3), (RX3, TX3, 3), (RX4, TX4, 4), (RX5, TX5, 7), (RX6, TX6, 2), (RX7, TX7, 6), (RX8, TX8, 6), (RX9, TX9, 5)]
/-- the words that every method of the system is walked over -/
def GT : List Cond := lw_tbl.filter goodWord
theorem GT_of {w : Cond} (h : w ∈ tables_1) (hg : goodWord w = true) : w ∈ GT := List.mem_filter.mpr ⟨List.mem_append_right _ h, hg⟩
theorem GT_sel {q : MethodName × Nat} (h : q ∈ lw_privs) (hg : goodWord (Cond.selects q.1.cls q.1 q.1) = true) : Cond.selects q.1.cls q.1 q.1 ∈ GT := List.mem_filter.mpr ⟨List.mem_append_left _ (List.mem_map.mpr ⟨q, h, rfl⟩), hg⟩
theorem GT_in {y : MethodName} {cc : ByteArray} {n : Nat} {r : Option FieldType} (h : Cond.code y cc n r ∈ GT) : GoodIn GT (Cond.code y cc n r :: GT) := by
  intro w hw
  have hw : w ∈ GT := by
    rcases List.mem_cons.mp hw with rfl | hw
    · exact h
    · exact hw
  exact ⟨hw, good_of_word (List.mem_filter.mp hw).2⟩
theorem tw_0 : (Jvm.Cond.initialized "RangeSchedulerLaw") ∈ GT := GT_of (List.mem_of_getElem? (i := 0) (by decide +kernel)) rfl
theorem tw_1 : (Jvm.Cond.initialized "RangeScheduler") ∈ GT := GT_of (List.mem_of_getElem? (i := 1) (by decide +kernel)) rfl
theorem tw_2 : (Jvm.Cond.initialized "RangeScheduler$Driver") ∈ GT := GT_of (List.mem_of_getElem? (i := 2) (by decide +kernel)) rfl
theorem tw_3 : (Jvm.Cond.initialized "RangeScheduler$Cluster") ∈ GT := GT_of (List.mem_of_getElem? (i := 3) (by decide +kernel)) rfl
theorem tw_4 : (Jvm.Cond.initialized "RangeScheduler$Settings") ∈ GT := GT_of (List.mem_of_getElem? (i := 4) (by decide +kernel)) rfl
theorem tw_5 : (Jvm.Cond.initialized "RangeScheduler$Nodes") ∈ GT := GT_of (List.mem_of_getElem? (i := 5) (by decide +kernel)) rfl
theorem tw_6 : (Jvm.Cond.initialized "RangeScheduler$Ranges") ∈ GT := GT_of (List.mem_of_getElem? (i := 6) (by decide +kernel)) rfl
theorem tw_7 : (Jvm.Cond.initialized "RangeScheduler$Items") ∈ GT := GT_of (List.mem_of_getElem? (i := 7) (by decide +kernel)) rfl
theorem tw_8 : (Jvm.Cond.initialized "RangeScheduler$Samples") ∈ GT := GT_of (List.mem_of_getElem? (i := 8) (by decide +kernel)) rfl
theorem tw_9 : (Jvm.Cond.initialized "RangeScheduler$History") ∈ GT := GT_of (List.mem_of_getElem? (i := 9) (by decide +kernel)) rfl
theorem tw_10 : (Jvm.Cond.initialized "RangeSchedulerModel") ∈ GT := GT_of (List.mem_of_getElem? (i := 10) (by decide +kernel)) rfl
theorem tw_11 : (Jvm.Cond.initialized "java/lang/Math") ∈ GT := GT_of (List.mem_of_getElem? (i := 11) (by decide +kernel)) rfl
theorem tw_12 : (Jvm.Cond.initialized "java/lang/System") ∈ GT := GT_of (List.mem_of_getElem? (i := 12) (by decide +kernel)) rfl
theorem tw_13 : (Jvm.Cond.initialized "java/lang/Integer") ∈ GT := GT_of (List.mem_of_getElem? (i := 13) (by decide +kernel)) rfl
theorem tw_14 : (Jvm.Cond.classLink "RangeSchedulerLaw" (7 : Nat) "RangeScheduler") ∈ GT := GT_of (List.mem_of_getElem? (i := 14) (by decide +kernel)) rfl
theorem tw_15 : (Jvm.Cond.instantiable "RangeScheduler" (6 : Nat)) ∈ GT := GT_of (List.mem_of_getElem? (i := 15) (by decide +kernel)) rfl
theorem tw_16 : (Jvm.Cond.methodLink "RangeSchedulerLaw" (9 : Nat) ({ cls := "RangeScheduler", name := "<init>", desc := "()V" } : Jvm.MethodName)) ∈ GT := GT_of (List.mem_of_getElem? (i := 16) (by decide +kernel)) rfl
theorem tw_17 : (Jvm.Cond.instanceMethod ({ cls := "RangeScheduler", name := "<init>", desc := "()V" } : Jvm.MethodName)) ∈ GT := GT_of (List.mem_of_getElem? (i := 17) (by decide +kernel)) rfl
theorem tw_18 : (Jvm.Cond.code ({ cls := "RangeScheduler", name := "<init>", desc := "()V" } : Jvm.MethodName) prog_1_method_1_code (1 : Nat) (Option.none : Option Jvm.ClassFile.FieldType)) ∈ GT := GT_of (List.mem_of_getElem? (i := 18) (by decide +kernel)) rfl
theorem tw_19 : (Jvm.Cond.methodLink "RangeScheduler" (3 : Nat) ({ cls := "java/lang/Object", name := "<init>", desc := "()V" } : Jvm.MethodName)) ∈ GT := GT_of (List.mem_of_getElem? (i := 19) (by decide +kernel)) rfl
theorem tw_20 : (Jvm.Cond.instanceMethod ({ cls := "java/lang/Object", name := "<init>", desc := "()V" } : Jvm.MethodName)) ∈ GT := GT_of (List.mem_of_getElem? (i := 20) (by decide +kernel)) rfl
theorem tw_21 : (Jvm.Cond.code ({ cls := "java/lang/Object", name := "<init>", desc := "()V" } : Jvm.MethodName) object_method_1_code (1 : Nat) (Option.none : Option Jvm.ClassFile.FieldType)) ∈ GT := GT_of (List.mem_of_getElem? (i := 21) (by decide +kernel)) rfl
theorem tw_22 : (Jvm.Cond.classLink "RangeScheduler" (9 : Nat) "RangeScheduler$Driver") ∈ GT := GT_of (List.mem_of_getElem? (i := 22) (by decide +kernel)) rfl
theorem tw_23 : (Jvm.Cond.instantiable "RangeScheduler$Driver" (4 : Nat)) ∈ GT := GT_of (List.mem_of_getElem? (i := 23) (by decide +kernel)) rfl
theorem tw_24 : (Jvm.Cond.methodLink "RangeScheduler" (11 : Nat) ({ cls := "RangeScheduler$Driver", name := "<init>", desc := "()V" } : Jvm.MethodName)) ∈ GT := GT_of (List.mem_of_getElem? (i := 24) (by decide +kernel)) rfl
theorem tw_25 : (Jvm.Cond.instanceMethod ({ cls := "RangeScheduler$Driver", name := "<init>", desc := "()V" } : Jvm.MethodName)) ∈ GT := GT_of (List.mem_of_getElem? (i := 25) (by decide +kernel)) rfl
theorem tw_26 : (Jvm.Cond.code ({ cls := "RangeScheduler$Driver", name := "<init>", desc := "()V" } : Jvm.MethodName) prog_3_method_1_code (1 : Nat) (Option.none : Option Jvm.ClassFile.FieldType)) ∈ GT := GT_of (List.mem_of_getElem? (i := 26) (by decide +kernel)) rfl
theorem tw_27 : (Jvm.Cond.methodLink "RangeScheduler$Driver" (3 : Nat) ({ cls := "java/lang/Object", name := "<init>", desc := "()V" } : Jvm.MethodName)) ∈ GT := GT_of (List.mem_of_getElem? (i := 27) (by decide +kernel)) rfl
theorem tw_28 : (Jvm.Cond.classLink "RangeScheduler$Driver" (9 : Nat) "RangeScheduler$Cluster") ∈ GT := GT_of (List.mem_of_getElem? (i := 28) (by decide +kernel)) rfl
theorem tw_29 : (Jvm.Cond.instantiable "RangeScheduler$Cluster" (7 : Nat)) ∈ GT := GT_of (List.mem_of_getElem? (i := 29) (by decide +kernel)) rfl
theorem tw_31 : (Jvm.Cond.instanceMethod ({ cls := "RangeScheduler$Cluster", name := "<init>", desc := "()V" } : Jvm.MethodName)) ∈ GT := GT_of (List.mem_of_getElem? (i := 31) (by decide +kernel)) rfl
theorem tw_32 : (Jvm.Cond.code ({ cls := "RangeScheduler$Cluster", name := "<init>", desc := "()V" } : Jvm.MethodName) prog_2_method_1_code (1 : Nat) (Option.none : Option Jvm.ClassFile.FieldType)) ∈ GT := GT_of (List.mem_of_getElem? (i := 32) (by decide +kernel)) rfl
theorem tw_33 : (Jvm.Cond.methodLink "RangeScheduler$Cluster" (3 : Nat) ({ cls := "java/lang/Object", name := "<init>", desc := "()V" } : Jvm.MethodName)) ∈ GT := GT_of (List.mem_of_getElem? (i := 33) (by decide +kernel)) rfl
theorem tw_34 : (Jvm.Cond.classLink "RangeScheduler$Cluster" (9 : Nat) "RangeScheduler$Settings") ∈ GT := GT_of (List.mem_of_getElem? (i := 34) (by decide +kernel)) rfl
theorem tw_35 : (Jvm.Cond.instantiable "RangeScheduler$Settings" (6 : Nat)) ∈ GT := GT_of (List.mem_of_getElem? (i := 35) (by decide +kernel)) rfl
theorem tw_37 : (Jvm.Cond.instanceMethod ({ cls := "RangeScheduler$Settings", name := "<init>", desc := "()V" } : Jvm.MethodName)) ∈ GT := GT_of (List.mem_of_getElem? (i := 37) (by decide +kernel)) rfl
theorem tw_38 : (Jvm.Cond.code ({ cls := "RangeScheduler$Settings", name := "<init>", desc := "()V" } : Jvm.MethodName) prog_9_method_1_code (1 : Nat) (Option.none : Option Jvm.ClassFile.FieldType)) ∈ GT := GT_of (List.mem_of_getElem? (i := 38) (by decide +kernel)) rfl
theorem tw_39 : (Jvm.Cond.methodLink "RangeScheduler$Settings" (1 : Nat) ({ cls := "java/lang/Object", name := "<init>", desc := "()V" } : Jvm.MethodName)) ∈ GT := GT_of (List.mem_of_getElem? (i := 39) (by decide +kernel)) rfl
theorem tw_40 : (Jvm.Cond.fieldLink "RangeScheduler$Settings" (7 : Nat) "RangeScheduler$Settings" "replication" "I") ∈ GT := GT_of (List.mem_of_getElem? (i := 40) (by decide +kernel)) rfl
theorem tw_41 : (Jvm.Cond.fieldLink "RangeScheduler" (78 : Nat) "RangeScheduler$Settings" "replication" "I") ∈ GT := GT_of (List.mem_of_getElem? (i := 41) (by decide +kernel)) rfl
theorem tw_42 : (Jvm.Cond.fieldLink "RangeScheduler$Driver" (127 : Nat) "RangeScheduler$Settings" "replication" "I") ∈ GT := GT_of (List.mem_of_getElem? (i := 42) (by decide +kernel)) rfl
theorem tw_43 : (Jvm.Cond.fieldLink "RangeScheduler$Settings" (13 : Nat) "RangeScheduler$Settings" "minimumSize" "I") ∈ GT := GT_of (List.mem_of_getElem? (i := 43) (by decide +kernel)) rfl
theorem tw_44 : (Jvm.Cond.fieldLink "RangeScheduler" (86 : Nat) "RangeScheduler$Settings" "minimumSize" "I") ∈ GT := GT_of (List.mem_of_getElem? (i := 44) (by decide +kernel)) rfl
theorem tw_45 : (Jvm.Cond.fieldLink "RangeScheduler$Driver" (187 : Nat) "RangeScheduler$Settings" "minimumSize" "I") ∈ GT := GT_of (List.mem_of_getElem? (i := 45) (by decide +kernel)) rfl
theorem tw_46 : (Jvm.Cond.fieldLink "RangeScheduler$Settings" (16 : Nat) "RangeScheduler$Settings" "maximumSize" "I") ∈ GT := GT_of (List.mem_of_getElem? (i := 46) (by decide +kernel)) rfl
theorem tw_47 : (Jvm.Cond.fieldLink "RangeScheduler" (83 : Nat) "RangeScheduler$Settings" "maximumSize" "I") ∈ GT := GT_of (List.mem_of_getElem? (i := 47) (by decide +kernel)) rfl
theorem tw_48 : (Jvm.Cond.fieldLink "RangeScheduler$Driver" (159 : Nat) "RangeScheduler$Settings" "maximumSize" "I") ∈ GT := GT_of (List.mem_of_getElem? (i := 48) (by decide +kernel)) rfl
theorem tw_49 : (Jvm.Cond.fieldLink "RangeScheduler$Settings" (19 : Nat) "RangeScheduler$Settings" "minimumLoad" "I") ∈ GT := GT_of (List.mem_of_getElem? (i := 49) (by decide +kernel)) rfl
theorem tw_50 : (Jvm.Cond.fieldLink "RangeScheduler" (92 : Nat) "RangeScheduler$Settings" "minimumLoad" "I") ∈ GT := GT_of (List.mem_of_getElem? (i := 50) (by decide +kernel)) rfl
theorem tw_51 : (Jvm.Cond.fieldLink "RangeScheduler$Driver" (190 : Nat) "RangeScheduler$Settings" "minimumLoad" "I") ∈ GT := GT_of (List.mem_of_getElem? (i := 51) (by decide +kernel)) rfl
theorem tw_52 : (Jvm.Cond.fieldLink "RangeScheduler$Settings" (22 : Nat) "RangeScheduler$Settings" "maximumLoad" "I") ∈ GT := GT_of (List.mem_of_getElem? (i := 52) (by decide +kernel)) rfl
theorem tw_53 : (Jvm.Cond.fieldLink "RangeScheduler" (89 : Nat) "RangeScheduler$Settings" "maximumLoad" "I") ∈ GT := GT_of (List.mem_of_getElem? (i := 53) (by decide +kernel)) rfl
theorem tw_54 : (Jvm.Cond.fieldLink "RangeScheduler$Driver" (171 : Nat) "RangeScheduler$Settings" "maximumLoad" "I") ∈ GT := GT_of (List.mem_of_getElem? (i := 54) (by decide +kernel)) rfl
theorem tw_55 : (Jvm.Cond.fieldLink "RangeScheduler$Settings" (25 : Nat) "RangeScheduler$Settings" "speed" "I") ∈ GT := GT_of (List.mem_of_getElem? (i := 55) (by decide +kernel)) rfl
theorem tw_56 : (Jvm.Cond.fieldLink "RangeScheduler" (95 : Nat) "RangeScheduler$Settings" "speed" "I") ∈ GT := GT_of (List.mem_of_getElem? (i := 56) (by decide +kernel)) rfl
theorem tw_57 : (Jvm.Cond.lays "RangeScheduler$Settings" "RangeScheduler$Settings" "replication" "I") ∈ GT := GT_of (List.mem_of_getElem? (i := 57) (by decide +kernel)) rfl
theorem tw_59 : (Jvm.Cond.lays "RangeScheduler$Settings" "RangeScheduler$Settings" "minimumSize" "I") ∈ GT := GT_of (List.mem_of_getElem? (i := 59) (by decide +kernel)) rfl
theorem tw_61 : (Jvm.Cond.lays "RangeScheduler$Settings" "RangeScheduler$Settings" "maximumSize" "I") ∈ GT := GT_of (List.mem_of_getElem? (i := 61) (by decide +kernel)) rfl
theorem tw_63 : (Jvm.Cond.lays "RangeScheduler$Settings" "RangeScheduler$Settings" "minimumLoad" "I") ∈ GT := GT_of (List.mem_of_getElem? (i := 63) (by decide +kernel)) rfl
theorem tw_65 : (Jvm.Cond.lays "RangeScheduler$Settings" "RangeScheduler$Settings" "maximumLoad" "I") ∈ GT := GT_of (List.mem_of_getElem? (i := 65) (by decide +kernel)) rfl
theorem tw_67 : (Jvm.Cond.lays "RangeScheduler$Settings" "RangeScheduler$Settings" "speed" "I") ∈ GT := GT_of (List.mem_of_getElem? (i := 67) (by decide +kernel)) rfl
theorem tw_70 : (Jvm.Cond.classLink "RangeScheduler$Cluster" (18 : Nat) "RangeScheduler$Nodes") ∈ GT := GT_of (List.mem_of_getElem? (i := 70) (by decide +kernel)) rfl
theorem tw_71 : (Jvm.Cond.instantiable "RangeScheduler$Nodes" (4 : Nat)) ∈ GT := GT_of (List.mem_of_getElem? (i := 71) (by decide +kernel)) rfl
theorem tw_73 : (Jvm.Cond.instanceMethod ({ cls := "RangeScheduler$Nodes", name := "<init>", desc := "()V" } : Jvm.MethodName)) ∈ GT := GT_of (List.mem_of_getElem? (i := 73) (by decide +kernel)) rfl
theorem tw_74 : (Jvm.Cond.code ({ cls := "RangeScheduler$Nodes", name := "<init>", desc := "()V" } : Jvm.MethodName) prog_6_method_1_code (1 : Nat) (Option.none : Option Jvm.ClassFile.FieldType)) ∈ GT := GT_of (List.mem_of_getElem? (i := 74) (by decide +kernel)) rfl
theorem tw_75 : (Jvm.Cond.methodLink "RangeScheduler$Nodes" (3 : Nat) ({ cls := "java/lang/Object", name := "<init>", desc := "()V" } : Jvm.MethodName)) ∈ GT := GT_of (List.mem_of_getElem? (i := 75) (by decide +kernel)) rfl
theorem tw_76 : (Jvm.Cond.fieldLink "RangeScheduler$Nodes" (18 : Nat) "RangeScheduler$Nodes" "count" "I") ∈ GT := GT_of (List.mem_of_getElem? (i := 76) (by decide +kernel)) rfl
theorem tw_77 : (Jvm.Cond.fieldLink "RangeScheduler" (42 : Nat) "RangeScheduler$Nodes" "count" "I") ∈ GT := GT_of (List.mem_of_getElem? (i := 77) (by decide +kernel)) rfl
theorem tw_78 : (Jvm.Cond.fieldLink "RangeScheduler$Cluster" (90 : Nat) "RangeScheduler$Nodes" "count" "I") ∈ GT := GT_of (List.mem_of_getElem? (i := 78) (by decide +kernel)) rfl
theorem tw_79 : (Jvm.Cond.fieldLink "RangeScheduler$Driver" (221 : Nat) "RangeScheduler$Nodes" "count" "I") ∈ GT := GT_of (List.mem_of_getElem? (i := 79) (by decide +kernel)) rfl
theorem tw_80 : (Jvm.Cond.fieldLink "RangeScheduler$Nodes" (22 : Nat) "RangeScheduler$Nodes" "upMask" "I") ∈ GT := GT_of (List.mem_of_getElem? (i := 80) (by decide +kernel)) rfl
theorem tw_81 : (Jvm.Cond.fieldLink "RangeScheduler$Cluster" (71 : Nat) "RangeScheduler$Nodes" "upMask" "I") ∈ GT := GT_of (List.mem_of_getElem? (i := 81) (by decide +kernel)) rfl
theorem tw_82 : (Jvm.Cond.fieldLink "RangeScheduler$Driver" (218 : Nat) "RangeScheduler$Nodes" "upMask" "I") ∈ GT := GT_of (List.mem_of_getElem? (i := 82) (by decide +kernel)) rfl
theorem tw_83 : (Jvm.Cond.fieldLink "RangeScheduler$Nodes" (9 : Nat) "RangeScheduler$Nodes" "zones" "[I") ∈ GT := GT_of (List.mem_of_getElem? (i := 83) (by decide +kernel)) rfl
theorem tw_84 : (Jvm.Cond.fieldLink "RangeScheduler$Driver" (208 : Nat) "RangeScheduler$Nodes" "zones" "[I") ∈ GT := GT_of (List.mem_of_getElem? (i := 84) (by decide +kernel)) rfl
theorem tw_85 : (Jvm.Cond.fieldLink "RangeScheduler" (230 : Nat) "RangeScheduler$Nodes" "zones" "[I") ∈ GT := GT_of (List.mem_of_getElem? (i := 85) (by decide +kernel)) rfl
theorem tw_86 : (Jvm.Cond.fieldLink "RangeScheduler$Nodes" (15 : Nat) "RangeScheduler$Nodes" "capacities" "[I") ∈ GT := GT_of (List.mem_of_getElem? (i := 86) (by decide +kernel)) rfl
theorem tw_87 : (Jvm.Cond.fieldLink "RangeScheduler$Driver" (222 : Nat) "RangeScheduler$Nodes" "capacities" "[I") ∈ GT := GT_of (List.mem_of_getElem? (i := 87) (by decide +kernel)) rfl
theorem tw_88 : (Jvm.Cond.fieldLink "RangeScheduler" (233 : Nat) "RangeScheduler$Nodes" "capacities" "[I") ∈ GT := GT_of (List.mem_of_getElem? (i := 88) (by decide +kernel)) rfl
theorem tw_89 : (Jvm.Cond.lays "RangeScheduler$Nodes" "RangeScheduler$Nodes" "count" "I") ∈ GT := GT_of (List.mem_of_getElem? (i := 89) (by decide +kernel)) rfl
theorem tw_91 : (Jvm.Cond.lays "RangeScheduler$Nodes" "RangeScheduler$Nodes" "upMask" "I") ∈ GT := GT_of (List.mem_of_getElem? (i := 91) (by decide +kernel)) rfl
theorem tw_93 : (Jvm.Cond.laysFinal "RangeScheduler$Nodes" "RangeScheduler$Nodes" "zones" "[I") ∈ GT := GT_of (List.mem_of_getElem? (i := 93) (by decide +kernel)) rfl
theorem tw_95 : (Jvm.Cond.laysFinal "RangeScheduler$Nodes" "RangeScheduler$Nodes" "capacities" "[I") ∈ GT := GT_of (List.mem_of_getElem? (i := 95) (by decide +kernel)) rfl
theorem tw_98 : (Jvm.Cond.arrayClass Jvm.ClassFile.FieldType.int) ∈ GT := GT_of (List.mem_of_getElem? (i := 98) (by decide +kernel)) rfl
theorem tw_99 : (Jvm.Cond.classLink "RangeScheduler$Cluster" (25 : Nat) "RangeScheduler$Ranges") ∈ GT := GT_of (List.mem_of_getElem? (i := 99) (by decide +kernel)) rfl
theorem tw_100 : (Jvm.Cond.instantiable "RangeScheduler$Ranges" (7 : Nat)) ∈ GT := GT_of (List.mem_of_getElem? (i := 100) (by decide +kernel)) rfl
theorem tw_101 : (Jvm.Cond.methodLink "RangeScheduler$Cluster" (27 : Nat) ({ cls := "RangeScheduler$Ranges", name := "<init>", desc := "()V" } : Jvm.MethodName)) ∈ GT := GT_of (List.mem_of_getElem? (i := 101) (by decide +kernel)) rfl
theorem tw_102 : (Jvm.Cond.instanceMethod ({ cls := "RangeScheduler$Ranges", name := "<init>", desc := "()V" } : Jvm.MethodName)) ∈ GT := GT_of (List.mem_of_getElem? (i := 102) (by decide +kernel)) rfl
theorem tw_103 : (Jvm.Cond.code ({ cls := "RangeScheduler$Ranges", name := "<init>", desc := "()V" } : Jvm.MethodName) prog_7_method_1_code (1 : Nat) (Option.none : Option Jvm.ClassFile.FieldType)) ∈ GT := GT_of (List.mem_of_getElem? (i := 103) (by decide +kernel)) rfl
theorem tw_104 : (Jvm.Cond.methodLink "RangeScheduler$Ranges" (3 : Nat) ({ cls := "java/lang/Object", name := "<init>", desc := "()V" } : Jvm.MethodName)) ∈ GT := GT_of (List.mem_of_getElem? (i := 104) (by decide +kernel)) rfl
theorem tw_105 : (Jvm.Cond.fieldLink "RangeScheduler$Ranges" (30 : Nat) "RangeScheduler$Ranges" "count" "I") ∈ GT := GT_of (List.mem_of_getElem? (i := 105) (by decide +kernel)) rfl
theorem tw_106 : (Jvm.Cond.fieldLink "RangeScheduler$Driver" (37 : Nat) "RangeScheduler$Ranges" "count" "I") ∈ GT := GT_of (List.mem_of_getElem? (i := 106) (by decide +kernel)) rfl
theorem tw_107 : (Jvm.Cond.fieldLink "RangeScheduler$Cluster" (83 : Nat) "RangeScheduler$Ranges" "count" "I") ∈ GT := GT_of (List.mem_of_getElem? (i := 107) (by decide +kernel)) rfl
theorem tw_108 : (Jvm.Cond.fieldLink "RangeScheduler" (164 : Nat) "RangeScheduler$Ranges" "count" "I") ∈ GT := GT_of (List.mem_of_getElem? (i := 108) (by decide +kernel)) rfl
theorem tw_109 : (Jvm.Cond.fieldLink "RangeScheduler$Ranges" (9 : Nat) "RangeScheduler$Ranges" "starts" "[I") ∈ GT := GT_of (List.mem_of_getElem? (i := 109) (by decide +kernel)) rfl
theorem tw_110 : (Jvm.Cond.fieldLink "RangeScheduler$Cluster" (50 : Nat) "RangeScheduler$Ranges" "starts" "[I") ∈ GT := GT_of (List.mem_of_getElem? (i := 110) (by decide +kernel)) rfl
theorem tw_111 : (Jvm.Cond.fieldLink "RangeScheduler" (139 : Nat) "RangeScheduler$Ranges" "starts" "[I") ∈ GT := GT_of (List.mem_of_getElem? (i := 111) (by decide +kernel)) rfl
theorem tw_112 : (Jvm.Cond.fieldLink "RangeScheduler$Ranges" (15 : Nat) "RangeScheduler$Ranges" "voterMasks" "[I") ∈ GT := GT_of (List.mem_of_getElem? (i := 112) (by decide +kernel)) rfl
theorem tw_113 : (Jvm.Cond.fieldLink "RangeScheduler$Driver" (75 : Nat) "RangeScheduler$Ranges" "voterMasks" "[I") ∈ GT := GT_of (List.mem_of_getElem? (i := 113) (by decide +kernel)) rfl
theorem tw_114 : (Jvm.Cond.fieldLink "RangeScheduler$Cluster" (68 : Nat) "RangeScheduler$Ranges" "voterMasks" "[I") ∈ GT := GT_of (List.mem_of_getElem? (i := 114) (by decide +kernel)) rfl
theorem tw_115 : (Jvm.Cond.fieldLink "RangeScheduler" (172 : Nat) "RangeScheduler$Ranges" "voterMasks" "[I") ∈ GT := GT_of (List.mem_of_getElem? (i := 115) (by decide +kernel)) rfl
theorem tw_116 : (Jvm.Cond.fieldLink "RangeScheduler$Ranges" (18 : Nat) "RangeScheduler$Ranges" "leaderNodes" "[I") ∈ GT := GT_of (List.mem_of_getElem? (i := 116) (by decide +kernel)) rfl
theorem tw_117 : (Jvm.Cond.fieldLink "RangeScheduler$Driver" (63 : Nat) "RangeScheduler$Ranges" "leaderNodes" "[I") ∈ GT := GT_of (List.mem_of_getElem? (i := 117) (by decide +kernel)) rfl
theorem tw_118 : (Jvm.Cond.fieldLink "RangeScheduler" (130 : Nat) "RangeScheduler$Ranges" "leaderNodes" "[I") ∈ GT := GT_of (List.mem_of_getElem? (i := 118) (by decide +kernel)) rfl
theorem tw_119 : (Jvm.Cond.fieldLink "RangeScheduler$Cluster" (97 : Nat) "RangeScheduler$Ranges" "leaderNodes" "[I") ∈ GT := GT_of (List.mem_of_getElem? (i := 119) (by decide +kernel)) rfl
theorem tw_120 : (Jvm.Cond.fieldLink "RangeScheduler$Ranges" (21 : Nat) "RangeScheduler$Ranges" "learnerNodes" "[I") ∈ GT := GT_of (List.mem_of_getElem? (i := 120) (by decide +kernel)) rfl
theorem tw_121 : (Jvm.Cond.fieldLink "RangeScheduler$Driver" (54 : Nat) "RangeScheduler$Ranges" "learnerNodes" "[I") ∈ GT := GT_of (List.mem_of_getElem? (i := 121) (by decide +kernel)) rfl
theorem tw_122 : (Jvm.Cond.fieldLink "RangeScheduler$Cluster" (107 : Nat) "RangeScheduler$Ranges" "learnerNodes" "[I") ∈ GT := GT_of (List.mem_of_getElem? (i := 122) (by decide +kernel)) rfl
theorem tw_123 : (Jvm.Cond.fieldLink "RangeScheduler$Ranges" (24 : Nat) "RangeScheduler$Ranges" "remainingTicks" "[I") ∈ GT := GT_of (List.mem_of_getElem? (i := 123) (by decide +kernel)) rfl
theorem tw_124 : (Jvm.Cond.fieldLink "RangeScheduler$Driver" (66 : Nat) "RangeScheduler$Ranges" "remainingTicks" "[I") ∈ GT := GT_of (List.mem_of_getElem? (i := 124) (by decide +kernel)) rfl
theorem tw_125 : (Jvm.Cond.fieldLink "RangeScheduler$Ranges" (27 : Nat) "RangeScheduler$Ranges" "replacedNodes" "[I") ∈ GT := GT_of (List.mem_of_getElem? (i := 125) (by decide +kernel)) rfl
theorem tw_126 : (Jvm.Cond.fieldLink "RangeScheduler$Driver" (69 : Nat) "RangeScheduler$Ranges" "replacedNodes" "[I") ∈ GT := GT_of (List.mem_of_getElem? (i := 126) (by decide +kernel)) rfl
theorem tw_127 : (Jvm.Cond.fieldLink "RangeScheduler" (236 : Nat) "RangeScheduler$Ranges" "replacedNodes" "[I") ∈ GT := GT_of (List.mem_of_getElem? (i := 127) (by decide +kernel)) rfl
theorem tw_128 : (Jvm.Cond.lays "RangeScheduler$Ranges" "RangeScheduler$Ranges" "count" "I") ∈ GT := GT_of (List.mem_of_getElem? (i := 128) (by decide +kernel)) rfl
theorem tw_130 : (Jvm.Cond.laysFinal "RangeScheduler$Ranges" "RangeScheduler$Ranges" "starts" "[I") ∈ GT := GT_of (List.mem_of_getElem? (i := 130) (by decide +kernel)) rfl
theorem tw_132 : (Jvm.Cond.laysFinal "RangeScheduler$Ranges" "RangeScheduler$Ranges" "voterMasks" "[I") ∈ GT := GT_of (List.mem_of_getElem? (i := 132) (by decide +kernel)) rfl
theorem tw_134 : (Jvm.Cond.laysFinal "RangeScheduler$Ranges" "RangeScheduler$Ranges" "leaderNodes" "[I") ∈ GT := GT_of (List.mem_of_getElem? (i := 134) (by decide +kernel)) rfl
theorem tw_136 : (Jvm.Cond.laysFinal "RangeScheduler$Ranges" "RangeScheduler$Ranges" "learnerNodes" "[I") ∈ GT := GT_of (List.mem_of_getElem? (i := 136) (by decide +kernel)) rfl
theorem tw_138 : (Jvm.Cond.laysFinal "RangeScheduler$Ranges" "RangeScheduler$Ranges" "remainingTicks" "[I") ∈ GT := GT_of (List.mem_of_getElem? (i := 138) (by decide +kernel)) rfl
theorem tw_140 : (Jvm.Cond.laysFinal "RangeScheduler$Ranges" "RangeScheduler$Ranges" "replacedNodes" "[I") ∈ GT := GT_of (List.mem_of_getElem? (i := 140) (by decide +kernel)) rfl
theorem tw_143 : (Jvm.Cond.classLink "RangeScheduler$Cluster" (32 : Nat) "RangeScheduler$Items") ∈ GT := GT_of (List.mem_of_getElem? (i := 143) (by decide +kernel)) rfl
theorem tw_144 : (Jvm.Cond.instantiable "RangeScheduler$Items" (3 : Nat)) ∈ GT := GT_of (List.mem_of_getElem? (i := 144) (by decide +kernel)) rfl
theorem tw_146 : (Jvm.Cond.instanceMethod ({ cls := "RangeScheduler$Items", name := "<init>", desc := "()V" } : Jvm.MethodName)) ∈ GT := GT_of (List.mem_of_getElem? (i := 146) (by decide +kernel)) rfl
theorem tw_147 : (Jvm.Cond.code ({ cls := "RangeScheduler$Items", name := "<init>", desc := "()V" } : Jvm.MethodName) prog_5_method_1_code (1 : Nat) (Option.none : Option Jvm.ClassFile.FieldType)) ∈ GT := GT_of (List.mem_of_getElem? (i := 147) (by decide +kernel)) rfl
theorem tw_148 : (Jvm.Cond.methodLink "RangeScheduler$Items" (3 : Nat) ({ cls := "java/lang/Object", name := "<init>", desc := "()V" } : Jvm.MethodName)) ∈ GT := GT_of (List.mem_of_getElem? (i := 148) (by decide +kernel)) rfl
theorem tw_149 : (Jvm.Cond.fieldLink "RangeScheduler$Items" (18 : Nat) "RangeScheduler$Items" "count" "I") ∈ GT := GT_of (List.mem_of_getElem? (i := 149) (by decide +kernel)) rfl
theorem tw_150 : (Jvm.Cond.fieldLink "RangeScheduler" (110 : Nat) "RangeScheduler$Items" "count" "I") ∈ GT := GT_of (List.mem_of_getElem? (i := 150) (by decide +kernel)) rfl
theorem tw_151 : (Jvm.Cond.fieldLink "RangeScheduler$Items" (9 : Nat) "RangeScheduler$Items" "keys" "[I") ∈ GT := GT_of (List.mem_of_getElem? (i := 151) (by decide +kernel)) rfl
theorem tw_152 : (Jvm.Cond.fieldLink "RangeScheduler$Items" (15 : Nat) "RangeScheduler$Items" "sizes" "[I") ∈ GT := GT_of (List.mem_of_getElem? (i := 152) (by decide +kernel)) rfl
theorem tw_153 : (Jvm.Cond.lays "RangeScheduler$Items" "RangeScheduler$Items" "count" "I") ∈ GT := GT_of (List.mem_of_getElem? (i := 153) (by decide +kernel)) rfl
theorem tw_155 : (Jvm.Cond.laysFinal "RangeScheduler$Items" "RangeScheduler$Items" "keys" "[I") ∈ GT := GT_of (List.mem_of_getElem? (i := 155) (by decide +kernel)) rfl
theorem tw_157 : (Jvm.Cond.laysFinal "RangeScheduler$Items" "RangeScheduler$Items" "sizes" "[I") ∈ GT := GT_of (List.mem_of_getElem? (i := 157) (by decide +kernel)) rfl
theorem tw_160 : (Jvm.Cond.classLink "RangeScheduler$Cluster" (39 : Nat) "RangeScheduler$Samples") ∈ GT := GT_of (List.mem_of_getElem? (i := 160) (by decide +kernel)) rfl
theorem tw_161 : (Jvm.Cond.instantiable "RangeScheduler$Samples" (2 : Nat)) ∈ GT := GT_of (List.mem_of_getElem? (i := 161) (by decide +kernel)) rfl
theorem tw_163 : (Jvm.Cond.instanceMethod ({ cls := "RangeScheduler$Samples", name := "<init>", desc := "()V" } : Jvm.MethodName)) ∈ GT := GT_of (List.mem_of_getElem? (i := 163) (by decide +kernel)) rfl
theorem tw_164 : (Jvm.Cond.code ({ cls := "RangeScheduler$Samples", name := "<init>", desc := "()V" } : Jvm.MethodName) prog_8_method_1_code (1 : Nat) (Option.none : Option Jvm.ClassFile.FieldType)) ∈ GT := GT_of (List.mem_of_getElem? (i := 164) (by decide +kernel)) rfl
theorem tw_165 : (Jvm.Cond.methodLink "RangeScheduler$Samples" (3 : Nat) ({ cls := "java/lang/Object", name := "<init>", desc := "()V" } : Jvm.MethodName)) ∈ GT := GT_of (List.mem_of_getElem? (i := 165) (by decide +kernel)) rfl
theorem tw_166 : (Jvm.Cond.fieldLink "RangeScheduler$Samples" (15 : Nat) "RangeScheduler$Samples" "count" "I") ∈ GT := GT_of (List.mem_of_getElem? (i := 166) (by decide +kernel)) rfl
theorem tw_167 : (Jvm.Cond.fieldLink "RangeScheduler" (222 : Nat) "RangeScheduler$Samples" "count" "I") ∈ GT := GT_of (List.mem_of_getElem? (i := 167) (by decide +kernel)) rfl
theorem tw_168 : (Jvm.Cond.fieldLink "RangeScheduler$Samples" (9 : Nat) "RangeScheduler$Samples" "keys" "[I") ∈ GT := GT_of (List.mem_of_getElem? (i := 168) (by decide +kernel)) rfl
theorem tw_169 : (Jvm.Cond.fieldLink "RangeScheduler" (223 : Nat) "RangeScheduler$Samples" "keys" "[I") ∈ GT := GT_of (List.mem_of_getElem? (i := 169) (by decide +kernel)) rfl
theorem tw_170 : (Jvm.Cond.lays "RangeScheduler$Samples" "RangeScheduler$Samples" "count" "I") ∈ GT := GT_of (List.mem_of_getElem? (i := 170) (by decide +kernel)) rfl
theorem tw_172 : (Jvm.Cond.laysFinal "RangeScheduler$Samples" "RangeScheduler$Samples" "keys" "[I") ∈ GT := GT_of (List.mem_of_getElem? (i := 172) (by decide +kernel)) rfl
theorem tw_175 : (Jvm.Cond.fieldLink "RangeScheduler$Cluster" (12 : Nat) "RangeScheduler$Cluster" "settings" "LRangeScheduler$Settings;") ∈ GT := GT_of (List.mem_of_getElem? (i := 175) (by decide +kernel)) rfl
theorem tw_176 : (Jvm.Cond.fieldLink "RangeScheduler$Driver" (18 : Nat) "RangeScheduler$Cluster" "settings" "LRangeScheduler$Settings;") ∈ GT := GT_of (List.mem_of_getElem? (i := 176) (by decide +kernel)) rfl
theorem tw_177 : (Jvm.Cond.fieldLink "RangeScheduler" (74 : Nat) "RangeScheduler$Cluster" "settings" "LRangeScheduler$Settings;") ∈ GT := GT_of (List.mem_of_getElem? (i := 177) (by decide +kernel)) rfl
theorem tw_178 : (Jvm.Cond.fieldLink "RangeScheduler$Cluster" (21 : Nat) "RangeScheduler$Cluster" "nodes" "LRangeScheduler$Nodes;") ∈ GT := GT_of (List.mem_of_getElem? (i := 178) (by decide +kernel)) rfl
theorem tw_179 : (Jvm.Cond.fieldLink "RangeScheduler$Driver" (23 : Nat) "RangeScheduler$Cluster" "nodes" "LRangeScheduler$Nodes;") ∈ GT := GT_of (List.mem_of_getElem? (i := 179) (by decide +kernel)) rfl
theorem tw_180 : (Jvm.Cond.fieldLink "RangeScheduler" (36 : Nat) "RangeScheduler$Cluster" "nodes" "LRangeScheduler$Nodes;") ∈ GT := GT_of (List.mem_of_getElem? (i := 180) (by decide +kernel)) rfl
theorem tw_181 : (Jvm.Cond.fieldLink "RangeScheduler$Cluster" (28 : Nat) "RangeScheduler$Cluster" "ranges" "LRangeScheduler$Ranges;") ∈ GT := GT_of (List.mem_of_getElem? (i := 181) (by decide +kernel)) rfl
theorem tw_182 : (Jvm.Cond.fieldLink "RangeScheduler$Driver" (28 : Nat) "RangeScheduler$Cluster" "ranges" "LRangeScheduler$Ranges;") ∈ GT := GT_of (List.mem_of_getElem? (i := 182) (by decide +kernel)) rfl
theorem tw_183 : (Jvm.Cond.fieldLink "RangeScheduler" (126 : Nat) "RangeScheduler$Cluster" "ranges" "LRangeScheduler$Ranges;") ∈ GT := GT_of (List.mem_of_getElem? (i := 183) (by decide +kernel)) rfl
theorem tw_184 : (Jvm.Cond.fieldLink "RangeScheduler$Cluster" (35 : Nat) "RangeScheduler$Cluster" "items" "LRangeScheduler$Items;") ∈ GT := GT_of (List.mem_of_getElem? (i := 184) (by decide +kernel)) rfl
theorem tw_185 : (Jvm.Cond.fieldLink "RangeScheduler" (101 : Nat) "RangeScheduler$Cluster" "items" "LRangeScheduler$Items;") ∈ GT := GT_of (List.mem_of_getElem? (i := 185) (by decide +kernel)) rfl
theorem tw_186 : (Jvm.Cond.fieldLink "RangeScheduler$Cluster" (42 : Nat) "RangeScheduler$Cluster" "samples" "LRangeScheduler$Samples;") ∈ GT := GT_of (List.mem_of_getElem? (i := 186) (by decide +kernel)) rfl
theorem tw_187 : (Jvm.Cond.fieldLink "RangeScheduler" (118 : Nat) "RangeScheduler$Cluster" "samples" "LRangeScheduler$Samples;") ∈ GT := GT_of (List.mem_of_getElem? (i := 187) (by decide +kernel)) rfl
theorem tw_188 : (Jvm.Cond.fieldLink "RangeScheduler$Cluster" (46 : Nat) "RangeScheduler$Cluster" "performedCounts" "[I") ∈ GT := GT_of (List.mem_of_getElem? (i := 188) (by decide +kernel)) rfl
theorem tw_189 : (Jvm.Cond.fieldLink "RangeScheduler$Driver" (50 : Nat) "RangeScheduler$Cluster" "performedCounts" "[I") ∈ GT := GT_of (List.mem_of_getElem? (i := 189) (by decide +kernel)) rfl
theorem tw_190 : (Jvm.Cond.fieldLink "RangeScheduler" (158 : Nat) "RangeScheduler$Cluster" "performedCounts" "[I") ∈ GT := GT_of (List.mem_of_getElem? (i := 190) (by decide +kernel)) rfl
theorem tw_191 : (Jvm.Cond.fieldLink "RangeScheduler$Driver" (33 : Nat) "RangeScheduler$Cluster" "ticksSoFar" "I") ∈ GT := GT_of (List.mem_of_getElem? (i := 191) (by decide +kernel)) rfl
theorem tw_192 : (Jvm.Cond.fieldLink "RangeScheduler$Cluster" (133 : Nat) "RangeScheduler$Cluster" "ticksSoFar" "I") ∈ GT := GT_of (List.mem_of_getElem? (i := 192) (by decide +kernel)) rfl
theorem tw_193 : (Jvm.Cond.fieldLink "RangeScheduler" (161 : Nat) "RangeScheduler$Cluster" "ticksSoFar" "I") ∈ GT := GT_of (List.mem_of_getElem? (i := 193) (by decide +kernel)) rfl
theorem tw_194 : (Jvm.Cond.laysFinal "RangeScheduler$Cluster" "RangeScheduler$Cluster" "settings" "LRangeScheduler$Settings;") ∈ GT := GT_of (List.mem_of_getElem? (i := 194) (by decide +kernel)) rfl
theorem tw_196 : (Jvm.Cond.laysFinal "RangeScheduler$Cluster" "RangeScheduler$Cluster" "nodes" "LRangeScheduler$Nodes;") ∈ GT := GT_of (List.mem_of_getElem? (i := 196) (by decide +kernel)) rfl
theorem tw_198 : (Jvm.Cond.laysFinal "RangeScheduler$Cluster" "RangeScheduler$Cluster" "ranges" "LRangeScheduler$Ranges;") ∈ GT := GT_of (List.mem_of_getElem? (i := 198) (by decide +kernel)) rfl
theorem tw_200 : (Jvm.Cond.laysFinal "RangeScheduler$Cluster" "RangeScheduler$Cluster" "items" "LRangeScheduler$Items;") ∈ GT := GT_of (List.mem_of_getElem? (i := 200) (by decide +kernel)) rfl
theorem tw_202 : (Jvm.Cond.laysFinal "RangeScheduler$Cluster" "RangeScheduler$Cluster" "samples" "LRangeScheduler$Samples;") ∈ GT := GT_of (List.mem_of_getElem? (i := 202) (by decide +kernel)) rfl
theorem tw_204 : (Jvm.Cond.laysFinal "RangeScheduler$Cluster" "RangeScheduler$Cluster" "performedCounts" "[I") ∈ GT := GT_of (List.mem_of_getElem? (i := 204) (by decide +kernel)) rfl
theorem tw_206 : (Jvm.Cond.lays "RangeScheduler$Cluster" "RangeScheduler$Cluster" "ticksSoFar" "I") ∈ GT := GT_of (List.mem_of_getElem? (i := 206) (by decide +kernel)) rfl
theorem tw_209 : (Jvm.Cond.fieldLink "RangeScheduler$Driver" (12 : Nat) "RangeScheduler$Driver" "cluster" "LRangeScheduler$Cluster;") ∈ GT := GT_of (List.mem_of_getElem? (i := 209) (by decide +kernel)) rfl
theorem tw_210 : (Jvm.Cond.fieldLink "RangeScheduler" (16 : Nat) "RangeScheduler$Driver" "cluster" "LRangeScheduler$Cluster;") ∈ GT := GT_of (List.mem_of_getElem? (i := 210) (by decide +kernel)) rfl
theorem tw_211 : (Jvm.Cond.fieldLink "RangeScheduler$Driver" (22 : Nat) "RangeScheduler$Driver" "settings" "LRangeScheduler$Settings;") ∈ GT := GT_of (List.mem_of_getElem? (i := 211) (by decide +kernel)) rfl
theorem tw_212 : (Jvm.Cond.fieldLink "RangeScheduler$Driver" (27 : Nat) "RangeScheduler$Driver" "nodes" "LRangeScheduler$Nodes;") ∈ GT := GT_of (List.mem_of_getElem? (i := 212) (by decide +kernel)) rfl
theorem tw_213 : (Jvm.Cond.fieldLink "RangeScheduler$Driver" (32 : Nat) "RangeScheduler$Driver" "ranges" "LRangeScheduler$Ranges;") ∈ GT := GT_of (List.mem_of_getElem? (i := 213) (by decide +kernel)) rfl
theorem tw_214 : (Jvm.Cond.laysFinal "RangeScheduler$Driver" "RangeScheduler$Driver" "cluster" "LRangeScheduler$Cluster;") ∈ GT := GT_of (List.mem_of_getElem? (i := 214) (by decide +kernel)) rfl
theorem tw_216 : (Jvm.Cond.laysFinal "RangeScheduler$Driver" "RangeScheduler$Driver" "settings" "LRangeScheduler$Settings;") ∈ GT := GT_of (List.mem_of_getElem? (i := 216) (by decide +kernel)) rfl
theorem tw_218 : (Jvm.Cond.laysFinal "RangeScheduler$Driver" "RangeScheduler$Driver" "nodes" "LRangeScheduler$Nodes;") ∈ GT := GT_of (List.mem_of_getElem? (i := 218) (by decide +kernel)) rfl
theorem tw_220 : (Jvm.Cond.laysFinal "RangeScheduler$Driver" "RangeScheduler$Driver" "ranges" "LRangeScheduler$Ranges;") ∈ GT := GT_of (List.mem_of_getElem? (i := 220) (by decide +kernel)) rfl
theorem tw_223 : (Jvm.Cond.classLink "RangeScheduler" (21 : Nat) "RangeScheduler$History") ∈ GT := GT_of (List.mem_of_getElem? (i := 223) (by decide +kernel)) rfl
theorem tw_224 : (Jvm.Cond.instantiable "RangeScheduler$History" (3 : Nat)) ∈ GT := GT_of (List.mem_of_getElem? (i := 224) (by decide +kernel)) rfl
theorem tw_225 : (Jvm.Cond.methodLink "RangeScheduler" (23 : Nat) ({ cls := "RangeScheduler$History", name := "<init>", desc := "()V" } : Jvm.MethodName)) ∈ GT := GT_of (List.mem_of_getElem? (i := 225) (by decide +kernel)) rfl
theorem tw_226 : (Jvm.Cond.instanceMethod ({ cls := "RangeScheduler$History", name := "<init>", desc := "()V" } : Jvm.MethodName)) ∈ GT := GT_of (List.mem_of_getElem? (i := 226) (by decide +kernel)) rfl
theorem tw_227 : (Jvm.Cond.code ({ cls := "RangeScheduler$History", name := "<init>", desc := "()V" } : Jvm.MethodName) prog_4_method_1_code (2 : Nat) (Option.none : Option Jvm.ClassFile.FieldType)) ∈ GT := GT_of (List.mem_of_getElem? (i := 227) (by decide +kernel)) rfl
theorem tw_228 : (Jvm.Cond.methodLink "RangeScheduler$History" (3 : Nat) ({ cls := "java/lang/Object", name := "<init>", desc := "()V" } : Jvm.MethodName)) ∈ GT := GT_of (List.mem_of_getElem? (i := 228) (by decide +kernel)) rfl
theorem tw_229 : (Jvm.Cond.classLink "RangeScheduler$History" (9 : Nat) "RangeScheduler$Cluster") ∈ GT := GT_of (List.mem_of_getElem? (i := 229) (by decide +kernel)) rfl
theorem tw_232 : (Jvm.Cond.fieldLink "RangeScheduler$History" (26 : Nat) "RangeScheduler$History" "count" "I") ∈ GT := GT_of (List.mem_of_getElem? (i := 232) (by decide +kernel)) rfl
theorem tw_233 : (Jvm.Cond.fieldLink "RangeScheduler" (193 : Nat) "RangeScheduler$History" "count" "I") ∈ GT := GT_of (List.mem_of_getElem? (i := 233) (by decide +kernel)) rfl
theorem tw_234 : (Jvm.Cond.fieldLink "RangeScheduler$History" (18 : Nat) "RangeScheduler$History" "next" "I") ∈ GT := GT_of (List.mem_of_getElem? (i := 234) (by decide +kernel)) rfl
theorem tw_235 : (Jvm.Cond.fieldLink "RangeScheduler$History" (11 : Nat) "RangeScheduler$History" "slots" "[LRangeScheduler$Cluster;") ∈ GT := GT_of (List.mem_of_getElem? (i := 235) (by decide +kernel)) rfl
theorem tw_236 : (Jvm.Cond.lays "RangeScheduler$History" "RangeScheduler$History" "count" "I") ∈ GT := GT_of (List.mem_of_getElem? (i := 236) (by decide +kernel)) rfl
theorem tw_238 : (Jvm.Cond.lays "RangeScheduler$History" "RangeScheduler$History" "next" "I") ∈ GT := GT_of (List.mem_of_getElem? (i := 238) (by decide +kernel)) rfl
theorem tw_240 : (Jvm.Cond.laysFinal "RangeScheduler$History" "RangeScheduler$History" "slots" "[LRangeScheduler$Cluster;") ∈ GT := GT_of (List.mem_of_getElem? (i := 240) (by decide +kernel)) rfl
theorem tw_243 : (Jvm.Cond.fieldLink "RangeScheduler" (12 : Nat) "RangeScheduler" "driver" "LRangeScheduler$Driver;") ∈ GT := GT_of (List.mem_of_getElem? (i := 243) (by decide +kernel)) rfl
theorem tw_244 : (Jvm.Cond.fieldLink "RangeScheduler" (20 : Nat) "RangeScheduler" "cluster" "LRangeScheduler$Cluster;") ∈ GT := GT_of (List.mem_of_getElem? (i := 244) (by decide +kernel)) rfl
theorem tw_245 : (Jvm.Cond.fieldLink "RangeScheduler" (24 : Nat) "RangeScheduler" "history" "LRangeScheduler$History;") ∈ GT := GT_of (List.mem_of_getElem? (i := 245) (by decide +kernel)) rfl
theorem tw_246 : (Jvm.Cond.fieldLink "RangeScheduler" (197 : Nat) "RangeScheduler" "invalidCalls" "I") ∈ GT := GT_of (List.mem_of_getElem? (i := 246) (by decide +kernel)) rfl
theorem tw_247 : (Jvm.Cond.fieldLink "RangeScheduler" (200 : Nat) "RangeScheduler" "rejectedCalls" "I") ∈ GT := GT_of (List.mem_of_getElem? (i := 247) (by decide +kernel)) rfl
theorem tw_248 : (Jvm.Cond.fieldLink "RangeScheduler" (203 : Nat) "RangeScheduler" "fullCalls" "I") ∈ GT := GT_of (List.mem_of_getElem? (i := 248) (by decide +kernel)) rfl
theorem tw_249 : (Jvm.Cond.laysFinal "RangeScheduler" "RangeScheduler" "driver" "LRangeScheduler$Driver;") ∈ GT := GT_of (List.mem_of_getElem? (i := 249) (by decide +kernel)) rfl
theorem tw_251 : (Jvm.Cond.laysFinal "RangeScheduler" "RangeScheduler" "cluster" "LRangeScheduler$Cluster;") ∈ GT := GT_of (List.mem_of_getElem? (i := 251) (by decide +kernel)) rfl
theorem tw_253 : (Jvm.Cond.laysFinal "RangeScheduler" "RangeScheduler" "history" "LRangeScheduler$History;") ∈ GT := GT_of (List.mem_of_getElem? (i := 253) (by decide +kernel)) rfl
theorem tw_255 : (Jvm.Cond.lays "RangeScheduler" "RangeScheduler" "invalidCalls" "I") ∈ GT := GT_of (List.mem_of_getElem? (i := 255) (by decide +kernel)) rfl
theorem tw_257 : (Jvm.Cond.lays "RangeScheduler" "RangeScheduler" "rejectedCalls" "I") ∈ GT := GT_of (List.mem_of_getElem? (i := 257) (by decide +kernel)) rfl
theorem tw_259 : (Jvm.Cond.lays "RangeScheduler" "RangeScheduler" "fullCalls" "I") ∈ GT := GT_of (List.mem_of_getElem? (i := 259) (by decide +kernel)) rfl
theorem tw_262 : (Jvm.Cond.methodLink "RangeSchedulerLaw" (13 : Nat) ({ cls := "RangeScheduler", name := "addNode", desc := "(II)I" } : Jvm.MethodName)) ∈ GT := GT_of (List.mem_of_getElem? (i := 262) (by decide +kernel)) rfl
theorem tw_263 : (Jvm.Cond.instanceMethod ({ cls := "RangeScheduler", name := "addNode", desc := "(II)I" } : Jvm.MethodName)) ∈ GT := GT_of (List.mem_of_getElem? (i := 263) (by decide +kernel)) rfl
theorem tw_264 : (Jvm.Cond.selects "RangeScheduler" ({ cls := "RangeScheduler", name := "addNode", desc := "(II)I" } : Jvm.MethodName) ({ cls := "RangeScheduler", name := "addNode", desc := "(II)I" } : Jvm.MethodName)) ∈ GT := GT_of (List.mem_of_getElem? (i := 264) (by decide +kernel)) rfl
theorem tw_265 : (Jvm.Cond.code ({ cls := "RangeScheduler", name := "addNode", desc := "(II)I" } : Jvm.MethodName) prog_1_method_2_code (3 : Nat) (Option.some Jvm.ClassFile.FieldType.int)) ∈ GT := GT_of (List.mem_of_getElem? (i := 265) (by decide +kernel)) rfl
theorem tw_266 : (Jvm.Cond.methodLink "RangeScheduler" (28 : Nat) ({ cls := "RangeScheduler", name := "isWithin", desc := "(III)Z" } : Jvm.MethodName)) ∈ GT := GT_of (List.mem_of_getElem? (i := 266) (by decide +kernel)) rfl
theorem tw_267 : (Jvm.Cond.static ({ cls := "RangeScheduler", name := "isWithin", desc := "(III)Z" } : Jvm.MethodName)) ∈ GT := GT_of (List.mem_of_getElem? (i := 267) (by decide +kernel)) rfl
theorem tw_268 : (Jvm.Cond.code ({ cls := "RangeScheduler", name := "isWithin", desc := "(III)Z" } : Jvm.MethodName) prog_1_method_38_code (3 : Nat) (Option.some Jvm.ClassFile.FieldType.boolean)) ∈ GT := GT_of (List.mem_of_getElem? (i := 268) (by decide +kernel)) rfl
theorem tw_269 : (Jvm.Cond.methodLink "RangeScheduler" (32 : Nat) ({ cls := "RangeScheduler", name := "fail", desc := "(I)I" } : Jvm.MethodName)) ∈ GT := GT_of (List.mem_of_getElem? (i := 269) (by decide +kernel)) rfl
theorem tw_271 : (Jvm.Cond.instanceMethod ({ cls := "RangeScheduler", name := "fail", desc := "(I)I" } : Jvm.MethodName)) ∈ GT := GT_of (List.mem_of_getElem? (i := 271) (by decide +kernel)) rfl
theorem tw_272 : (Jvm.Cond.code ({ cls := "RangeScheduler", name := "fail", desc := "(I)I" } : Jvm.MethodName) prog_1_method_37_code (2 : Nat) (Option.some Jvm.ClassFile.FieldType.int)) ∈ GT := GT_of (List.mem_of_getElem? (i := 272) (by decide +kernel)) rfl
theorem tw_273 : (Jvm.Cond.methodLink "RangeScheduler" (48 : Nat) ({ cls := "RangeScheduler$History", name := "save", desc := "(LRangeScheduler$Cluster;)V" } : Jvm.MethodName)) ∈ GT := GT_of (List.mem_of_getElem? (i := 273) (by decide +kernel)) rfl
theorem tw_274 : (Jvm.Cond.instanceMethod ({ cls := "RangeScheduler$History", name := "save", desc := "(LRangeScheduler$Cluster;)V" } : Jvm.MethodName)) ∈ GT := GT_of (List.mem_of_getElem? (i := 274) (by decide +kernel)) rfl
theorem tw_275 : (Jvm.Cond.selects "RangeScheduler$History" ({ cls := "RangeScheduler$History", name := "save", desc := "(LRangeScheduler$Cluster;)V" } : Jvm.MethodName) ({ cls := "RangeScheduler$History", name := "save", desc := "(LRangeScheduler$Cluster;)V" } : Jvm.MethodName)) ∈ GT := GT_of (List.mem_of_getElem? (i := 275) (by decide +kernel)) rfl
theorem tw_276 : (Jvm.Cond.code ({ cls := "RangeScheduler$History", name := "save", desc := "(LRangeScheduler$Cluster;)V" } : Jvm.MethodName) prog_4_method_2_code (3 : Nat) (Option.none : Option Jvm.ClassFile.FieldType)) ∈ GT := GT_of (List.mem_of_getElem? (i := 276) (by decide +kernel)) rfl
theorem tw_277 : (Jvm.Cond.methodLink "RangeScheduler$History" (22 : Nat) ({ cls := "RangeScheduler$Cluster", name := "copyFrom", desc := "(LRangeScheduler$Cluster;)V" } : Jvm.MethodName)) ∈ GT := GT_of (List.mem_of_getElem? (i := 277) (by decide +kernel)) rfl
theorem tw_278 : (Jvm.Cond.instanceMethod ({ cls := "RangeScheduler$Cluster", name := "copyFrom", desc := "(LRangeScheduler$Cluster;)V" } : Jvm.MethodName)) ∈ GT := GT_of (List.mem_of_getElem? (i := 278) (by decide +kernel)) rfl
theorem tw_279 : (Jvm.Cond.selects "RangeScheduler$Cluster" ({ cls := "RangeScheduler$Cluster", name := "copyFrom", desc := "(LRangeScheduler$Cluster;)V" } : Jvm.MethodName) ({ cls := "RangeScheduler$Cluster", name := "copyFrom", desc := "(LRangeScheduler$Cluster;)V" } : Jvm.MethodName)) ∈ GT := GT_of (List.mem_of_getElem? (i := 279) (by decide +kernel)) rfl
theorem tw_280 : (Jvm.Cond.code ({ cls := "RangeScheduler$Cluster", name := "copyFrom", desc := "(LRangeScheduler$Cluster;)V" } : Jvm.MethodName) prog_2_method_14_code (2 : Nat) (Option.none : Option Jvm.ClassFile.FieldType)) ∈ GT := GT_of (List.mem_of_getElem? (i := 280) (by decide +kernel)) rfl
theorem tw_281 : (Jvm.Cond.methodLink "RangeScheduler$Cluster" (113 : Nat) ({ cls := "RangeScheduler$Settings", name := "copyFrom", desc := "(LRangeScheduler$Settings;)V" } : Jvm.MethodName)) ∈ GT := GT_of (List.mem_of_getElem? (i := 281) (by decide +kernel)) rfl
theorem tw_282 : (Jvm.Cond.instanceMethod ({ cls := "RangeScheduler$Settings", name := "copyFrom", desc := "(LRangeScheduler$Settings;)V" } : Jvm.MethodName)) ∈ GT := GT_of (List.mem_of_getElem? (i := 282) (by decide +kernel)) rfl
theorem tw_283 : (Jvm.Cond.selects "RangeScheduler$Settings" ({ cls := "RangeScheduler$Settings", name := "copyFrom", desc := "(LRangeScheduler$Settings;)V" } : Jvm.MethodName) ({ cls := "RangeScheduler$Settings", name := "copyFrom", desc := "(LRangeScheduler$Settings;)V" } : Jvm.MethodName)) ∈ GT := GT_of (List.mem_of_getElem? (i := 283) (by decide +kernel)) rfl
theorem tw_284 : (Jvm.Cond.code ({ cls := "RangeScheduler$Settings", name := "copyFrom", desc := "(LRangeScheduler$Settings;)V" } : Jvm.MethodName) prog_9_method_3_code (2 : Nat) (Option.none : Option Jvm.ClassFile.FieldType)) ∈ GT := GT_of (List.mem_of_getElem? (i := 284) (by decide +kernel)) rfl
theorem tw_285 : (Jvm.Cond.methodLink "RangeScheduler$Cluster" (117 : Nat) ({ cls := "RangeScheduler$Nodes", name := "copyFrom", desc := "(LRangeScheduler$Nodes;)V" } : Jvm.MethodName)) ∈ GT := GT_of (List.mem_of_getElem? (i := 285) (by decide +kernel)) rfl
theorem tw_286 : (Jvm.Cond.instanceMethod ({ cls := "RangeScheduler$Nodes", name := "copyFrom", desc := "(LRangeScheduler$Nodes;)V" } : Jvm.MethodName)) ∈ GT := GT_of (List.mem_of_getElem? (i := 286) (by decide +kernel)) rfl
theorem tw_287 : (Jvm.Cond.selects "RangeScheduler$Nodes" ({ cls := "RangeScheduler$Nodes", name := "copyFrom", desc := "(LRangeScheduler$Nodes;)V" } : Jvm.MethodName) ({ cls := "RangeScheduler$Nodes", name := "copyFrom", desc := "(LRangeScheduler$Nodes;)V" } : Jvm.MethodName)) ∈ GT := GT_of (List.mem_of_getElem? (i := 287) (by decide +kernel)) rfl
theorem tw_288 : (Jvm.Cond.code ({ cls := "RangeScheduler$Nodes", name := "copyFrom", desc := "(LRangeScheduler$Nodes;)V" } : Jvm.MethodName) prog_6_method_6_code (2 : Nat) (Option.none : Option Jvm.ClassFile.FieldType)) ∈ GT := GT_of (List.mem_of_getElem? (i := 288) (by decide +kernel)) rfl
theorem tw_290 : (Jvm.Cond.static ({ cls := "RangeScheduler", name := "copyRow", desc := "([I[I)V" } : Jvm.MethodName)) ∈ GT := GT_of (List.mem_of_getElem? (i := 290) (by decide +kernel)) rfl
theorem tw_291 : (Jvm.Cond.code ({ cls := "RangeScheduler", name := "copyRow", desc := "([I[I)V" } : Jvm.MethodName) prog_1_method_41_code (2 : Nat) (Option.none : Option Jvm.ClassFile.FieldType)) ∈ GT := GT_of (List.mem_of_getElem? (i := 291) (by decide +kernel)) rfl
theorem tw_292 : (Jvm.Cond.methodLink "RangeScheduler" (241 : Nat) ({ cls := "java/lang/Math", name := "min", desc := "(II)I" } : Jvm.MethodName)) ∈ GT := GT_of (List.mem_of_getElem? (i := 292) (by decide +kernel)) rfl
theorem tw_293 : (Jvm.Cond.static ({ cls := "java/lang/Math", name := "min", desc := "(II)I" } : Jvm.MethodName)) ∈ GT := GT_of (List.mem_of_getElem? (i := 293) (by decide +kernel)) rfl
theorem tw_294 : (Jvm.Cond.code ({ cls := "java/lang/Math", name := "min", desc := "(II)I" } : Jvm.MethodName) prog_13_method_69_code (2 : Nat) (Option.some Jvm.ClassFile.FieldType.int)) ∈ GT := GT_of (List.mem_of_getElem? (i := 294) (by decide +kernel)) rfl
theorem tw_295 : (Jvm.Cond.methodLink "RangeScheduler" (246 : Nat) ({ cls := "java/lang/System", name := "arraycopy", desc := "(Ljava/lang/Object;ILjava/lang/Object;II)V" } : Jvm.MethodName)) ∈ GT := GT_of (List.mem_of_getElem? (i := 295) (by decide +kernel)) rfl
theorem tw_296 : (Jvm.Cond.static ({ cls := "java/lang/System", name := "arraycopy", desc := "(Ljava/lang/Object;ILjava/lang/Object;II)V" } : Jvm.MethodName)) ∈ GT := GT_of (List.mem_of_getElem? (i := 296) (by decide +kernel)) rfl
theorem tw_297 : (Jvm.Cond.native ({ cls := "java/lang/System", name := "arraycopy", desc := "(Ljava/lang/Object;ILjava/lang/Object;II)V" } : Jvm.MethodName)) ∈ GT := GT_of (List.mem_of_getElem? (i := 297) (by decide +kernel)) rfl
theorem tw_298 : (Jvm.Cond.methodLink "RangeScheduler$Cluster" (120 : Nat) ({ cls := "RangeScheduler$Ranges", name := "copyFrom", desc := "(LRangeScheduler$Ranges;)V" } : Jvm.MethodName)) ∈ GT := GT_of (List.mem_of_getElem? (i := 298) (by decide +kernel)) rfl
theorem tw_299 : (Jvm.Cond.instanceMethod ({ cls := "RangeScheduler$Ranges", name := "copyFrom", desc := "(LRangeScheduler$Ranges;)V" } : Jvm.MethodName)) ∈ GT := GT_of (List.mem_of_getElem? (i := 299) (by decide +kernel)) rfl
theorem tw_300 : (Jvm.Cond.selects "RangeScheduler$Ranges" ({ cls := "RangeScheduler$Ranges", name := "copyFrom", desc := "(LRangeScheduler$Ranges;)V" } : Jvm.MethodName) ({ cls := "RangeScheduler$Ranges", name := "copyFrom", desc := "(LRangeScheduler$Ranges;)V" } : Jvm.MethodName)) ∈ GT := GT_of (List.mem_of_getElem? (i := 300) (by decide +kernel)) rfl
theorem tw_301 : (Jvm.Cond.code ({ cls := "RangeScheduler$Ranges", name := "copyFrom", desc := "(LRangeScheduler$Ranges;)V" } : Jvm.MethodName) prog_7_method_16_code (2 : Nat) (Option.none : Option Jvm.ClassFile.FieldType)) ∈ GT := GT_of (List.mem_of_getElem? (i := 301) (by decide +kernel)) rfl
theorem tw_303 : (Jvm.Cond.methodLink "RangeScheduler$Cluster" (123 : Nat) ({ cls := "RangeScheduler$Items", name := "copyFrom", desc := "(LRangeScheduler$Items;)V" } : Jvm.MethodName)) ∈ GT := GT_of (List.mem_of_getElem? (i := 303) (by decide +kernel)) rfl
theorem tw_304 : (Jvm.Cond.instanceMethod ({ cls := "RangeScheduler$Items", name := "copyFrom", desc := "(LRangeScheduler$Items;)V" } : Jvm.MethodName)) ∈ GT := GT_of (List.mem_of_getElem? (i := 304) (by decide +kernel)) rfl
theorem tw_305 : (Jvm.Cond.selects "RangeScheduler$Items" ({ cls := "RangeScheduler$Items", name := "copyFrom", desc := "(LRangeScheduler$Items;)V" } : Jvm.MethodName) ({ cls := "RangeScheduler$Items", name := "copyFrom", desc := "(LRangeScheduler$Items;)V" } : Jvm.MethodName)) ∈ GT := GT_of (List.mem_of_getElem? (i := 305) (by decide +kernel)) rfl
theorem tw_306 : (Jvm.Cond.code ({ cls := "RangeScheduler$Items", name := "copyFrom", desc := "(LRangeScheduler$Items;)V" } : Jvm.MethodName) prog_5_method_9_code (2 : Nat) (Option.none : Option Jvm.ClassFile.FieldType)) ∈ GT := GT_of (List.mem_of_getElem? (i := 306) (by decide +kernel)) rfl
theorem tw_308 : (Jvm.Cond.methodLink "RangeScheduler$Cluster" (126 : Nat) ({ cls := "RangeScheduler$Samples", name := "copyFrom", desc := "(LRangeScheduler$Samples;)V" } : Jvm.MethodName)) ∈ GT := GT_of (List.mem_of_getElem? (i := 308) (by decide +kernel)) rfl
theorem tw_309 : (Jvm.Cond.instanceMethod ({ cls := "RangeScheduler$Samples", name := "copyFrom", desc := "(LRangeScheduler$Samples;)V" } : Jvm.MethodName)) ∈ GT := GT_of (List.mem_of_getElem? (i := 309) (by decide +kernel)) rfl
theorem tw_310 : (Jvm.Cond.selects "RangeScheduler$Samples" ({ cls := "RangeScheduler$Samples", name := "copyFrom", desc := "(LRangeScheduler$Samples;)V" } : Jvm.MethodName) ({ cls := "RangeScheduler$Samples", name := "copyFrom", desc := "(LRangeScheduler$Samples;)V" } : Jvm.MethodName)) ∈ GT := GT_of (List.mem_of_getElem? (i := 310) (by decide +kernel)) rfl
theorem tw_311 : (Jvm.Cond.code ({ cls := "RangeScheduler$Samples", name := "copyFrom", desc := "(LRangeScheduler$Samples;)V" } : Jvm.MethodName) prog_8_method_6_code (2 : Nat) (Option.none : Option Jvm.ClassFile.FieldType)) ∈ GT := GT_of (List.mem_of_getElem? (i := 311) (by decide +kernel)) rfl
theorem tw_314 : (Jvm.Cond.methodLink "RangeScheduler$History" (29 : Nat) ({ cls := "java/lang/Math", name := "min", desc := "(II)I" } : Jvm.MethodName)) ∈ GT := GT_of (List.mem_of_getElem? (i := 314) (by decide +kernel)) rfl
theorem tw_315 : (Jvm.Cond.methodLink "RangeScheduler" (52 : Nat) ({ cls := "RangeScheduler$Nodes", name := "append", desc := "(II)I" } : Jvm.MethodName)) ∈ GT := GT_of (List.mem_of_getElem? (i := 315) (by decide +kernel)) rfl
theorem tw_316 : (Jvm.Cond.instanceMethod ({ cls := "RangeScheduler$Nodes", name := "append", desc := "(II)I" } : Jvm.MethodName)) ∈ GT := GT_of (List.mem_of_getElem? (i := 316) (by decide +kernel)) rfl
theorem tw_317 : (Jvm.Cond.selects "RangeScheduler$Nodes" ({ cls := "RangeScheduler$Nodes", name := "append", desc := "(II)I" } : Jvm.MethodName) ({ cls := "RangeScheduler$Nodes", name := "append", desc := "(II)I" } : Jvm.MethodName)) ∈ GT := GT_of (List.mem_of_getElem? (i := 317) (by decide +kernel)) rfl
theorem tw_318 : (Jvm.Cond.code ({ cls := "RangeScheduler$Nodes", name := "append", desc := "(II)I" } : Jvm.MethodName) prog_6_method_4_code (4 : Nat) (Option.some Jvm.ClassFile.FieldType.int)) ∈ GT := GT_of (List.mem_of_getElem? (i := 318) (by decide +kernel)) rfl
theorem tw_320 : (Jvm.Cond.static ({ cls := "RangeScheduler", name := "bit", desc := "(I)I" } : Jvm.MethodName)) ∈ GT := GT_of (List.mem_of_getElem? (i := 320) (by decide +kernel)) rfl
theorem tw_321 : (Jvm.Cond.code ({ cls := "RangeScheduler", name := "bit", desc := "(I)I" } : Jvm.MethodName) prog_1_method_40_code (1 : Nat) (Option.some Jvm.ClassFile.FieldType.int)) ∈ GT := GT_of (List.mem_of_getElem? (i := 321) (by decide +kernel)) rfl
theorem tw_322 : (Jvm.Cond.methodLink "RangeSchedulerLaw" (18 : Nat) ({ cls := "RangeScheduler", name := "setNode", desc := "(II)I" } : Jvm.MethodName)) ∈ GT := GT_of (List.mem_of_getElem? (i := 322) (by decide +kernel)) rfl
theorem tw_323 : (Jvm.Cond.instanceMethod ({ cls := "RangeScheduler", name := "setNode", desc := "(II)I" } : Jvm.MethodName)) ∈ GT := GT_of (List.mem_of_getElem? (i := 323) (by decide +kernel)) rfl
theorem tw_324 : (Jvm.Cond.selects "RangeScheduler" ({ cls := "RangeScheduler", name := "setNode", desc := "(II)I" } : Jvm.MethodName) ({ cls := "RangeScheduler", name := "setNode", desc := "(II)I" } : Jvm.MethodName)) ∈ GT := GT_of (List.mem_of_getElem? (i := 324) (by decide +kernel)) rfl
theorem tw_325 : (Jvm.Cond.code ({ cls := "RangeScheduler", name := "setNode", desc := "(II)I" } : Jvm.MethodName) prog_1_method_3_code (4 : Nat) (Option.some Jvm.ClassFile.FieldType.int)) ∈ GT := GT_of (List.mem_of_getElem? (i := 325) (by decide +kernel)) rfl
theorem tw_326 : (Jvm.Cond.methodLink "RangeScheduler" (56 : Nat) ({ cls := "RangeScheduler$Nodes", name := "exists", desc := "(I)Z" } : Jvm.MethodName)) ∈ GT := GT_of (List.mem_of_getElem? (i := 326) (by decide +kernel)) rfl
theorem tw_327 : (Jvm.Cond.instanceMethod ({ cls := "RangeScheduler$Nodes", name := "exists", desc := "(I)Z" } : Jvm.MethodName)) ∈ GT := GT_of (List.mem_of_getElem? (i := 327) (by decide +kernel)) rfl
theorem tw_328 : (Jvm.Cond.selects "RangeScheduler$Nodes" ({ cls := "RangeScheduler$Nodes", name := "exists", desc := "(I)Z" } : Jvm.MethodName) ({ cls := "RangeScheduler$Nodes", name := "exists", desc := "(I)Z" } : Jvm.MethodName)) ∈ GT := GT_of (List.mem_of_getElem? (i := 328) (by decide +kernel)) rfl
theorem tw_329 : (Jvm.Cond.code ({ cls := "RangeScheduler$Nodes", name := "exists", desc := "(I)Z" } : Jvm.MethodName) prog_6_method_2_code (2 : Nat) (Option.some Jvm.ClassFile.FieldType.boolean)) ∈ GT := GT_of (List.mem_of_getElem? (i := 329) (by decide +kernel)) rfl
theorem tw_330 : (Jvm.Cond.methodLink "RangeScheduler" (60 : Nat) ({ cls := "RangeScheduler$Nodes", name := "isUp", desc := "(I)Z" } : Jvm.MethodName)) ∈ GT := GT_of (List.mem_of_getElem? (i := 330) (by decide +kernel)) rfl
theorem tw_331 : (Jvm.Cond.instanceMethod ({ cls := "RangeScheduler$Nodes", name := "isUp", desc := "(I)Z" } : Jvm.MethodName)) ∈ GT := GT_of (List.mem_of_getElem? (i := 331) (by decide +kernel)) rfl
theorem tw_332 : (Jvm.Cond.selects "RangeScheduler$Nodes" ({ cls := "RangeScheduler$Nodes", name := "isUp", desc := "(I)Z" } : Jvm.MethodName) ({ cls := "RangeScheduler$Nodes", name := "isUp", desc := "(I)Z" } : Jvm.MethodName)) ∈ GT := GT_of (List.mem_of_getElem? (i := 332) (by decide +kernel)) rfl
theorem tw_333 : (Jvm.Cond.code ({ cls := "RangeScheduler$Nodes", name := "isUp", desc := "(I)Z" } : Jvm.MethodName) prog_6_method_3_code (2 : Nat) (Option.some Jvm.ClassFile.FieldType.boolean)) ∈ GT := GT_of (List.mem_of_getElem? (i := 333) (by decide +kernel)) rfl
theorem tw_334 : (Jvm.Cond.methodLink "RangeScheduler" (63 : Nat) ({ cls := "RangeScheduler$Cluster", name := "bringUp", desc := "(I)V" } : Jvm.MethodName)) ∈ GT := GT_of (List.mem_of_getElem? (i := 334) (by decide +kernel)) rfl
theorem tw_335 : (Jvm.Cond.instanceMethod ({ cls := "RangeScheduler$Cluster", name := "bringUp", desc := "(I)V" } : Jvm.MethodName)) ∈ GT := GT_of (List.mem_of_getElem? (i := 335) (by decide +kernel)) rfl
theorem tw_336 : (Jvm.Cond.selects "RangeScheduler$Cluster" ({ cls := "RangeScheduler$Cluster", name := "bringUp", desc := "(I)V" } : Jvm.MethodName) ({ cls := "RangeScheduler$Cluster", name := "bringUp", desc := "(I)V" } : Jvm.MethodName)) ∈ GT := GT_of (List.mem_of_getElem? (i := 336) (by decide +kernel)) rfl
theorem tw_337 : (Jvm.Cond.code ({ cls := "RangeScheduler$Cluster", name := "bringUp", desc := "(I)V" } : Jvm.MethodName) prog_2_method_12_code (3 : Nat) (Option.none : Option Jvm.ClassFile.FieldType)) ∈ GT := GT_of (List.mem_of_getElem? (i := 337) (by decide +kernel)) rfl
theorem tw_339 : (Jvm.Cond.methodLink "RangeScheduler$Cluster" (103 : Nat) ({ cls := "RangeScheduler$Cluster", name := "elect", desc := "(I)V" } : Jvm.MethodName)) ∈ GT := GT_of (List.mem_of_getElem? (i := 339) (by decide +kernel)) rfl
theorem tw_340 : (Jvm.Cond.instanceMethod ({ cls := "RangeScheduler$Cluster", name := "elect", desc := "(I)V" } : Jvm.MethodName)) ∈ GT := GT_of (List.mem_of_getElem? (i := 340) (by decide +kernel)) rfl
theorem tw_341 : (Jvm.Cond.selects "RangeScheduler$Cluster" ({ cls := "RangeScheduler$Cluster", name := "elect", desc := "(I)V" } : Jvm.MethodName) ({ cls := "RangeScheduler$Cluster", name := "elect", desc := "(I)V" } : Jvm.MethodName)) ∈ GT := GT_of (List.mem_of_getElem? (i := 341) (by decide +kernel)) rfl
theorem tw_342 : (Jvm.Cond.code ({ cls := "RangeScheduler$Cluster", name := "elect", desc := "(I)V" } : Jvm.MethodName) prog_2_method_11_code (2 : Nat) (Option.none : Option Jvm.ClassFile.FieldType)) ∈ GT := GT_of (List.mem_of_getElem? (i := 342) (by decide +kernel)) rfl
theorem tw_343 : (Jvm.Cond.methodLink "RangeScheduler$Cluster" (86 : Nat) ({ cls := "RangeScheduler$Cluster", name := "hasQuorum", desc := "(I)Z" } : Jvm.MethodName)) ∈ GT := GT_of (List.mem_of_getElem? (i := 343) (by decide +kernel)) rfl
theorem tw_344 : (Jvm.Cond.instanceMethod ({ cls := "RangeScheduler$Cluster", name := "hasQuorum", desc := "(I)Z" } : Jvm.MethodName)) ∈ GT := GT_of (List.mem_of_getElem? (i := 344) (by decide +kernel)) rfl
theorem tw_345 : (Jvm.Cond.selects "RangeScheduler$Cluster" ({ cls := "RangeScheduler$Cluster", name := "hasQuorum", desc := "(I)Z" } : Jvm.MethodName) ({ cls := "RangeScheduler$Cluster", name := "hasQuorum", desc := "(I)Z" } : Jvm.MethodName)) ∈ GT := GT_of (List.mem_of_getElem? (i := 345) (by decide +kernel)) rfl
theorem tw_346 : (Jvm.Cond.code ({ cls := "RangeScheduler$Cluster", name := "hasQuorum", desc := "(I)Z" } : Jvm.MethodName) prog_2_method_8_code (2 : Nat) (Option.some Jvm.ClassFile.FieldType.boolean)) ∈ GT := GT_of (List.mem_of_getElem? (i := 346) (by decide +kernel)) rfl
theorem tw_347 : (Jvm.Cond.methodLink "RangeScheduler$Cluster" (75 : Nat) ({ cls := "RangeScheduler$Cluster", name := "votersUp", desc := "(I)I" } : Jvm.MethodName)) ∈ GT := GT_of (List.mem_of_getElem? (i := 347) (by decide +kernel)) rfl
theorem tw_348 : (Jvm.Cond.instanceMethod ({ cls := "RangeScheduler$Cluster", name := "votersUp", desc := "(I)I" } : Jvm.MethodName)) ∈ GT := GT_of (List.mem_of_getElem? (i := 348) (by decide +kernel)) rfl
theorem tw_349 : (Jvm.Cond.selects "RangeScheduler$Cluster" ({ cls := "RangeScheduler$Cluster", name := "votersUp", desc := "(I)I" } : Jvm.MethodName) ({ cls := "RangeScheduler$Cluster", name := "votersUp", desc := "(I)I" } : Jvm.MethodName)) ∈ GT := GT_of (List.mem_of_getElem? (i := 349) (by decide +kernel)) rfl
theorem tw_350 : (Jvm.Cond.code ({ cls := "RangeScheduler$Cluster", name := "votersUp", desc := "(I)I" } : Jvm.MethodName) prog_2_method_6_code (2 : Nat) (Option.some Jvm.ClassFile.FieldType.int)) ∈ GT := GT_of (List.mem_of_getElem? (i := 350) (by decide +kernel)) rfl
theorem tw_351 : (Jvm.Cond.methodLink "RangeScheduler$Cluster" (78 : Nat) ({ cls := "java/lang/Integer", name := "bitCount", desc := "(I)I" } : Jvm.MethodName)) ∈ GT := GT_of (List.mem_of_getElem? (i := 351) (by decide +kernel)) rfl
theorem tw_352 : (Jvm.Cond.static ({ cls := "java/lang/Integer", name := "bitCount", desc := "(I)I" } : Jvm.MethodName)) ∈ GT := GT_of (List.mem_of_getElem? (i := 352) (by decide +kernel)) rfl
theorem tw_353 : (Jvm.Cond.code ({ cls := "java/lang/Integer", name := "bitCount", desc := "(I)I" } : Jvm.MethodName) prog_12_method_49_code (1 : Nat) (Option.some Jvm.ClassFile.FieldType.int)) ∈ GT := GT_of (List.mem_of_getElem? (i := 353) (by decide +kernel)) rfl
theorem tw_354 : (Jvm.Cond.constant "java/lang/Integer" (265 : Nat) (1431655765 : Int32)) ∈ GT := GT_of (List.mem_of_getElem? (i := 354) (by decide +kernel)) rfl
theorem tw_355 : (Jvm.Cond.constant "java/lang/Integer" (266 : Nat) (858993459 : Int32)) ∈ GT := GT_of (List.mem_of_getElem? (i := 355) (by decide +kernel)) rfl
theorem tw_356 : (Jvm.Cond.constant "java/lang/Integer" (267 : Nat) (252645135 : Int32)) ∈ GT := GT_of (List.mem_of_getElem? (i := 356) (by decide +kernel)) rfl
theorem tw_357 : (Jvm.Cond.methodLink "RangeScheduler$Cluster" (100 : Nat) ({ cls := "RangeScheduler$Cluster", name := "leastLeading", desc := "(I)I" } : Jvm.MethodName)) ∈ GT := GT_of (List.mem_of_getElem? (i := 357) (by decide +kernel)) rfl
theorem tw_358 : (Jvm.Cond.instanceMethod ({ cls := "RangeScheduler$Cluster", name := "leastLeading", desc := "(I)I" } : Jvm.MethodName)) ∈ GT := GT_of (List.mem_of_getElem? (i := 358) (by decide +kernel)) rfl
theorem tw_359 : (Jvm.Cond.selects "RangeScheduler$Cluster" ({ cls := "RangeScheduler$Cluster", name := "leastLeading", desc := "(I)I" } : Jvm.MethodName) ({ cls := "RangeScheduler$Cluster", name := "leastLeading", desc := "(I)I" } : Jvm.MethodName)) ∈ GT := GT_of (List.mem_of_getElem? (i := 359) (by decide +kernel)) rfl
theorem tw_360 : (Jvm.Cond.code ({ cls := "RangeScheduler$Cluster", name := "leastLeading", desc := "(I)I" } : Jvm.MethodName) prog_2_method_10_code (6 : Nat) (Option.some Jvm.ClassFile.FieldType.int)) ∈ GT := GT_of (List.mem_of_getElem? (i := 360) (by decide +kernel)) rfl
theorem tw_361 : (Jvm.Cond.methodLink "RangeScheduler$Cluster" (94 : Nat) ({ cls := "RangeScheduler$Ranges", name := "ledBy", desc := "(I)I" } : Jvm.MethodName)) ∈ GT := GT_of (List.mem_of_getElem? (i := 361) (by decide +kernel)) rfl
theorem tw_362 : (Jvm.Cond.instanceMethod ({ cls := "RangeScheduler$Ranges", name := "ledBy", desc := "(I)I" } : Jvm.MethodName)) ∈ GT := GT_of (List.mem_of_getElem? (i := 362) (by decide +kernel)) rfl
theorem tw_363 : (Jvm.Cond.selects "RangeScheduler$Ranges" ({ cls := "RangeScheduler$Ranges", name := "ledBy", desc := "(I)I" } : Jvm.MethodName) ({ cls := "RangeScheduler$Ranges", name := "ledBy", desc := "(I)I" } : Jvm.MethodName)) ∈ GT := GT_of (List.mem_of_getElem? (i := 363) (by decide +kernel)) rfl
theorem tw_364 : (Jvm.Cond.code ({ cls := "RangeScheduler$Ranges", name := "ledBy", desc := "(I)I" } : Jvm.MethodName) prog_7_method_12_code (4 : Nat) (Option.some Jvm.ClassFile.FieldType.int)) ∈ GT := GT_of (List.mem_of_getElem? (i := 364) (by decide +kernel)) rfl
theorem tw_365 : (Jvm.Cond.methodLink "RangeScheduler" (67 : Nat) ({ cls := "RangeScheduler$Cluster", name := "takeDown", desc := "(I)V" } : Jvm.MethodName)) ∈ GT := GT_of (List.mem_of_getElem? (i := 365) (by decide +kernel)) rfl
theorem tw_366 : (Jvm.Cond.instanceMethod ({ cls := "RangeScheduler$Cluster", name := "takeDown", desc := "(I)V" } : Jvm.MethodName)) ∈ GT := GT_of (List.mem_of_getElem? (i := 366) (by decide +kernel)) rfl
theorem tw_367 : (Jvm.Cond.selects "RangeScheduler$Cluster" ({ cls := "RangeScheduler$Cluster", name := "takeDown", desc := "(I)V" } : Jvm.MethodName) ({ cls := "RangeScheduler$Cluster", name := "takeDown", desc := "(I)V" } : Jvm.MethodName)) ∈ GT := GT_of (List.mem_of_getElem? (i := 367) (by decide +kernel)) rfl
theorem tw_368 : (Jvm.Cond.code ({ cls := "RangeScheduler$Cluster", name := "takeDown", desc := "(I)V" } : Jvm.MethodName) prog_2_method_13_code (3 : Nat) (Option.none : Option Jvm.ClassFile.FieldType)) ∈ GT := GT_of (List.mem_of_getElem? (i := 368) (by decide +kernel)) rfl
theorem tw_369 : (Jvm.Cond.methodLink "RangeScheduler$Cluster" (110 : Nat) ({ cls := "RangeScheduler$Ranges", name := "clearLearner", desc := "(I)V" } : Jvm.MethodName)) ∈ GT := GT_of (List.mem_of_getElem? (i := 369) (by decide +kernel)) rfl
theorem tw_370 : (Jvm.Cond.instanceMethod ({ cls := "RangeScheduler$Ranges", name := "clearLearner", desc := "(I)V" } : Jvm.MethodName)) ∈ GT := GT_of (List.mem_of_getElem? (i := 370) (by decide +kernel)) rfl
theorem tw_371 : (Jvm.Cond.selects "RangeScheduler$Ranges" ({ cls := "RangeScheduler$Ranges", name := "clearLearner", desc := "(I)V" } : Jvm.MethodName) ({ cls := "RangeScheduler$Ranges", name := "clearLearner", desc := "(I)V" } : Jvm.MethodName)) ∈ GT := GT_of (List.mem_of_getElem? (i := 371) (by decide +kernel)) rfl
theorem tw_372 : (Jvm.Cond.code ({ cls := "RangeScheduler$Ranges", name := "clearLearner", desc := "(I)V" } : Jvm.MethodName) prog_7_method_10_code (2 : Nat) (Option.none : Option Jvm.ClassFile.FieldType)) ∈ GT := GT_of (List.mem_of_getElem? (i := 372) (by decide +kernel)) rfl
theorem tw_373 : (Jvm.Cond.methodLink "RangeScheduler$Ranges" (38 : Nat) ({ cls := "RangeScheduler$Ranges", name := "setLearner", desc := "(IIII)V" } : Jvm.MethodName)) ∈ GT := GT_of (List.mem_of_getElem? (i := 373) (by decide +kernel)) rfl
theorem tw_374 : (Jvm.Cond.instanceMethod ({ cls := "RangeScheduler$Ranges", name := "setLearner", desc := "(IIII)V" } : Jvm.MethodName)) ∈ GT := GT_of (List.mem_of_getElem? (i := 374) (by decide +kernel)) rfl
theorem tw_375 : (Jvm.Cond.selects "RangeScheduler$Ranges" ({ cls := "RangeScheduler$Ranges", name := "setLearner", desc := "(IIII)V" } : Jvm.MethodName) ({ cls := "RangeScheduler$Ranges", name := "setLearner", desc := "(IIII)V" } : Jvm.MethodName)) ∈ GT := GT_of (List.mem_of_getElem? (i := 375) (by decide +kernel)) rfl
theorem tw_376 : (Jvm.Cond.code ({ cls := "RangeScheduler$Ranges", name := "setLearner", desc := "(IIII)V" } : Jvm.MethodName) prog_7_method_9_code (5 : Nat) (Option.none : Option Jvm.ClassFile.FieldType)) ∈ GT := GT_of (List.mem_of_getElem? (i := 376) (by decide +kernel)) rfl
theorem tw_377 : (Jvm.Cond.methodLink "RangeScheduler" (70 : Nat) ({ cls := "RangeScheduler$Cluster", name := "countAvailable", desc := "()I" } : Jvm.MethodName)) ∈ GT := GT_of (List.mem_of_getElem? (i := 377) (by decide +kernel)) rfl
theorem tw_378 : (Jvm.Cond.instanceMethod ({ cls := "RangeScheduler$Cluster", name := "countAvailable", desc := "()I" } : Jvm.MethodName)) ∈ GT := GT_of (List.mem_of_getElem? (i := 378) (by decide +kernel)) rfl
theorem tw_379 : (Jvm.Cond.selects "RangeScheduler$Cluster" ({ cls := "RangeScheduler$Cluster", name := "countAvailable", desc := "()I" } : Jvm.MethodName) ({ cls := "RangeScheduler$Cluster", name := "countAvailable", desc := "()I" } : Jvm.MethodName)) ∈ GT := GT_of (List.mem_of_getElem? (i := 379) (by decide +kernel)) rfl
theorem tw_380 : (Jvm.Cond.code ({ cls := "RangeScheduler$Cluster", name := "countAvailable", desc := "()I" } : Jvm.MethodName) prog_2_method_9_code (3 : Nat) (Option.some Jvm.ClassFile.FieldType.int)) ∈ GT := GT_of (List.mem_of_getElem? (i := 380) (by decide +kernel)) rfl
theorem tw_381 : (Jvm.Cond.methodLink "RangeSchedulerLaw" (22 : Nat) ({ cls := "RangeScheduler", name := "setReplication", desc := "(I)I" } : Jvm.MethodName)) ∈ GT := GT_of (List.mem_of_getElem? (i := 381) (by decide +kernel)) rfl
theorem tw_382 : (Jvm.Cond.instanceMethod ({ cls := "RangeScheduler", name := "setReplication", desc := "(I)I" } : Jvm.MethodName)) ∈ GT := GT_of (List.mem_of_getElem? (i := 382) (by decide +kernel)) rfl
theorem tw_383 : (Jvm.Cond.selects "RangeScheduler" ({ cls := "RangeScheduler", name := "setReplication", desc := "(I)I" } : Jvm.MethodName) ({ cls := "RangeScheduler", name := "setReplication", desc := "(I)I" } : Jvm.MethodName)) ∈ GT := GT_of (List.mem_of_getElem? (i := 383) (by decide +kernel)) rfl
theorem tw_384 : (Jvm.Cond.code ({ cls := "RangeScheduler", name := "setReplication", desc := "(I)I" } : Jvm.MethodName) prog_1_method_4_code (3 : Nat) (Option.some Jvm.ClassFile.FieldType.int)) ∈ GT := GT_of (List.mem_of_getElem? (i := 384) (by decide +kernel)) rfl
theorem tw_385 : (Jvm.Cond.methodLink "RangeSchedulerLaw" (27 : Nat) ({ cls := "RangeScheduler", name := "setSizes", desc := "(II)I" } : Jvm.MethodName)) ∈ GT := GT_of (List.mem_of_getElem? (i := 385) (by decide +kernel)) rfl
theorem tw_386 : (Jvm.Cond.instanceMethod ({ cls := "RangeScheduler", name := "setSizes", desc := "(II)I" } : Jvm.MethodName)) ∈ GT := GT_of (List.mem_of_getElem? (i := 386) (by decide +kernel)) rfl
theorem tw_387 : (Jvm.Cond.selects "RangeScheduler" ({ cls := "RangeScheduler", name := "setSizes", desc := "(II)I" } : Jvm.MethodName) ({ cls := "RangeScheduler", name := "setSizes", desc := "(II)I" } : Jvm.MethodName)) ∈ GT := GT_of (List.mem_of_getElem? (i := 387) (by decide +kernel)) rfl
theorem tw_388 : (Jvm.Cond.code ({ cls := "RangeScheduler", name := "setSizes", desc := "(II)I" } : Jvm.MethodName) prog_1_method_5_code (4 : Nat) (Option.some Jvm.ClassFile.FieldType.int)) ∈ GT := GT_of (List.mem_of_getElem? (i := 388) (by decide +kernel)) rfl
theorem tw_389 : (Jvm.Cond.methodLink "RangeSchedulerLaw" (31 : Nat) ({ cls := "RangeScheduler", name := "setLoads", desc := "(II)I" } : Jvm.MethodName)) ∈ GT := GT_of (List.mem_of_getElem? (i := 389) (by decide +kernel)) rfl
theorem tw_390 : (Jvm.Cond.instanceMethod ({ cls := "RangeScheduler", name := "setLoads", desc := "(II)I" } : Jvm.MethodName)) ∈ GT := GT_of (List.mem_of_getElem? (i := 390) (by decide +kernel)) rfl
theorem tw_391 : (Jvm.Cond.selects "RangeScheduler" ({ cls := "RangeScheduler", name := "setLoads", desc := "(II)I" } : Jvm.MethodName) ({ cls := "RangeScheduler", name := "setLoads", desc := "(II)I" } : Jvm.MethodName)) ∈ GT := GT_of (List.mem_of_getElem? (i := 391) (by decide +kernel)) rfl
theorem tw_392 : (Jvm.Cond.code ({ cls := "RangeScheduler", name := "setLoads", desc := "(II)I" } : Jvm.MethodName) prog_1_method_6_code (4 : Nat) (Option.some Jvm.ClassFile.FieldType.int)) ∈ GT := GT_of (List.mem_of_getElem? (i := 392) (by decide +kernel)) rfl
theorem tw_393 : (Jvm.Cond.methodLink "RangeSchedulerLaw" (35 : Nat) ({ cls := "RangeScheduler", name := "setSpeed", desc := "(I)I" } : Jvm.MethodName)) ∈ GT := GT_of (List.mem_of_getElem? (i := 393) (by decide +kernel)) rfl
theorem tw_394 : (Jvm.Cond.instanceMethod ({ cls := "RangeScheduler", name := "setSpeed", desc := "(I)I" } : Jvm.MethodName)) ∈ GT := GT_of (List.mem_of_getElem? (i := 394) (by decide +kernel)) rfl
theorem tw_395 : (Jvm.Cond.selects "RangeScheduler" ({ cls := "RangeScheduler", name := "setSpeed", desc := "(I)I" } : Jvm.MethodName) ({ cls := "RangeScheduler", name := "setSpeed", desc := "(I)I" } : Jvm.MethodName)) ∈ GT := GT_of (List.mem_of_getElem? (i := 395) (by decide +kernel)) rfl
theorem tw_396 : (Jvm.Cond.code ({ cls := "RangeScheduler", name := "setSpeed", desc := "(I)I" } : Jvm.MethodName) prog_1_method_7_code (3 : Nat) (Option.some Jvm.ClassFile.FieldType.int)) ∈ GT := GT_of (List.mem_of_getElem? (i := 396) (by decide +kernel)) rfl
theorem tw_397 : (Jvm.Cond.methodLink "RangeSchedulerLaw" (39 : Nat) ({ cls := "RangeScheduler", name := "put", desc := "(II)I" } : Jvm.MethodName)) ∈ GT := GT_of (List.mem_of_getElem? (i := 397) (by decide +kernel)) rfl
theorem tw_398 : (Jvm.Cond.instanceMethod ({ cls := "RangeScheduler", name := "put", desc := "(II)I" } : Jvm.MethodName)) ∈ GT := GT_of (List.mem_of_getElem? (i := 398) (by decide +kernel)) rfl
theorem tw_399 : (Jvm.Cond.selects "RangeScheduler" ({ cls := "RangeScheduler", name := "put", desc := "(II)I" } : Jvm.MethodName) ({ cls := "RangeScheduler", name := "put", desc := "(II)I" } : Jvm.MethodName)) ∈ GT := GT_of (List.mem_of_getElem? (i := 399) (by decide +kernel)) rfl
theorem tw_400 : (Jvm.Cond.code ({ cls := "RangeScheduler", name := "put", desc := "(II)I" } : Jvm.MethodName) prog_1_method_8_code (4 : Nat) (Option.some Jvm.ClassFile.FieldType.int)) ∈ GT := GT_of (List.mem_of_getElem? (i := 400) (by decide +kernel)) rfl
theorem tw_401 : (Jvm.Cond.methodLink "RangeScheduler" (98 : Nat) ({ cls := "RangeScheduler", name := "isKey", desc := "(I)Z" } : Jvm.MethodName)) ∈ GT := GT_of (List.mem_of_getElem? (i := 401) (by decide +kernel)) rfl
theorem tw_402 : (Jvm.Cond.static ({ cls := "RangeScheduler", name := "isKey", desc := "(I)Z" } : Jvm.MethodName)) ∈ GT := GT_of (List.mem_of_getElem? (i := 402) (by decide +kernel)) rfl
theorem tw_403 : (Jvm.Cond.code ({ cls := "RangeScheduler", name := "isKey", desc := "(I)Z" } : Jvm.MethodName) prog_1_method_39_code (1 : Nat) (Option.some Jvm.ClassFile.FieldType.boolean)) ∈ GT := GT_of (List.mem_of_getElem? (i := 403) (by decide +kernel)) rfl
theorem tw_404 : (Jvm.Cond.methodLink "RangeScheduler" (105 : Nat) ({ cls := "RangeScheduler$Items", name := "sizeAt", desc := "(I)I" } : Jvm.MethodName)) ∈ GT := GT_of (List.mem_of_getElem? (i := 404) (by decide +kernel)) rfl
theorem tw_405 : (Jvm.Cond.instanceMethod ({ cls := "RangeScheduler$Items", name := "sizeAt", desc := "(I)I" } : Jvm.MethodName)) ∈ GT := GT_of (List.mem_of_getElem? (i := 405) (by decide +kernel)) rfl
theorem tw_406 : (Jvm.Cond.selects "RangeScheduler$Items" ({ cls := "RangeScheduler$Items", name := "sizeAt", desc := "(I)I" } : Jvm.MethodName) ({ cls := "RangeScheduler$Items", name := "sizeAt", desc := "(I)I" } : Jvm.MethodName)) ∈ GT := GT_of (List.mem_of_getElem? (i := 406) (by decide +kernel)) rfl
theorem tw_407 : (Jvm.Cond.code ({ cls := "RangeScheduler$Items", name := "sizeAt", desc := "(I)I" } : Jvm.MethodName) prog_5_method_4_code (3 : Nat) (Option.some Jvm.ClassFile.FieldType.int)) ∈ GT := GT_of (List.mem_of_getElem? (i := 407) (by decide +kernel)) rfl
theorem tw_408 : (Jvm.Cond.methodLink "RangeScheduler$Items" (22 : Nat) ({ cls := "RangeScheduler$Items", name := "placeOf", desc := "(I)I" } : Jvm.MethodName)) ∈ GT := GT_of (List.mem_of_getElem? (i := 408) (by decide +kernel)) rfl
theorem tw_410 : (Jvm.Cond.instanceMethod ({ cls := "RangeScheduler$Items", name := "placeOf", desc := "(I)I" } : Jvm.MethodName)) ∈ GT := GT_of (List.mem_of_getElem? (i := 410) (by decide +kernel)) rfl
theorem tw_411 : (Jvm.Cond.code ({ cls := "RangeScheduler$Items", name := "placeOf", desc := "(I)I" } : Jvm.MethodName) prog_5_method_2_code (3 : Nat) (Option.some Jvm.ClassFile.FieldType.int)) ∈ GT := GT_of (List.mem_of_getElem? (i := 411) (by decide +kernel)) rfl
theorem tw_412 : (Jvm.Cond.methodLink "RangeScheduler$Items" (26 : Nat) ({ cls := "RangeScheduler$Items", name := "isAt", desc := "(II)Z" } : Jvm.MethodName)) ∈ GT := GT_of (List.mem_of_getElem? (i := 412) (by decide +kernel)) rfl
theorem tw_414 : (Jvm.Cond.instanceMethod ({ cls := "RangeScheduler$Items", name := "isAt", desc := "(II)Z" } : Jvm.MethodName)) ∈ GT := GT_of (List.mem_of_getElem? (i := 414) (by decide +kernel)) rfl
theorem tw_415 : (Jvm.Cond.code ({ cls := "RangeScheduler$Items", name := "isAt", desc := "(II)Z" } : Jvm.MethodName) prog_5_method_3_code (3 : Nat) (Option.some Jvm.ClassFile.FieldType.boolean)) ∈ GT := GT_of (List.mem_of_getElem? (i := 415) (by decide +kernel)) rfl
theorem tw_416 : (Jvm.Cond.methodLink "RangeScheduler" (111 : Nat) ({ cls := "RangeScheduler$Items", name := "store", desc := "(II)V" } : Jvm.MethodName)) ∈ GT := GT_of (List.mem_of_getElem? (i := 416) (by decide +kernel)) rfl
theorem tw_417 : (Jvm.Cond.instanceMethod ({ cls := "RangeScheduler$Items", name := "store", desc := "(II)V" } : Jvm.MethodName)) ∈ GT := GT_of (List.mem_of_getElem? (i := 417) (by decide +kernel)) rfl
theorem tw_418 : (Jvm.Cond.selects "RangeScheduler$Items" ({ cls := "RangeScheduler$Items", name := "store", desc := "(II)V" } : Jvm.MethodName) ({ cls := "RangeScheduler$Items", name := "store", desc := "(II)V" } : Jvm.MethodName)) ∈ GT := GT_of (List.mem_of_getElem? (i := 418) (by decide +kernel)) rfl
theorem tw_419 : (Jvm.Cond.code ({ cls := "RangeScheduler$Items", name := "store", desc := "(II)V" } : Jvm.MethodName) prog_5_method_5_code (4 : Nat) (Option.none : Option Jvm.ClassFile.FieldType)) ∈ GT := GT_of (List.mem_of_getElem? (i := 419) (by decide +kernel)) rfl
theorem tw_420 : (Jvm.Cond.methodLink "RangeScheduler$Items" (30 : Nat) ({ cls := "java/lang/System", name := "arraycopy", desc := "(Ljava/lang/Object;ILjava/lang/Object;II)V" } : Jvm.MethodName)) ∈ GT := GT_of (List.mem_of_getElem? (i := 420) (by decide +kernel)) rfl
theorem tw_421 : (Jvm.Cond.methodLink "RangeSchedulerLaw" (43 : Nat) ({ cls := "RangeScheduler", name := "remove", desc := "(I)I" } : Jvm.MethodName)) ∈ GT := GT_of (List.mem_of_getElem? (i := 421) (by decide +kernel)) rfl
theorem tw_422 : (Jvm.Cond.instanceMethod ({ cls := "RangeScheduler", name := "remove", desc := "(I)I" } : Jvm.MethodName)) ∈ GT := GT_of (List.mem_of_getElem? (i := 422) (by decide +kernel)) rfl
theorem tw_423 : (Jvm.Cond.selects "RangeScheduler" ({ cls := "RangeScheduler", name := "remove", desc := "(I)I" } : Jvm.MethodName) ({ cls := "RangeScheduler", name := "remove", desc := "(I)I" } : Jvm.MethodName)) ∈ GT := GT_of (List.mem_of_getElem? (i := 423) (by decide +kernel)) rfl
theorem tw_424 : (Jvm.Cond.code ({ cls := "RangeScheduler", name := "remove", desc := "(I)I" } : Jvm.MethodName) prog_1_method_9_code (3 : Nat) (Option.some Jvm.ClassFile.FieldType.int)) ∈ GT := GT_of (List.mem_of_getElem? (i := 424) (by decide +kernel)) rfl
theorem tw_425 : (Jvm.Cond.methodLink "RangeScheduler" (115 : Nat) ({ cls := "RangeScheduler$Items", name := "erase", desc := "(I)V" } : Jvm.MethodName)) ∈ GT := GT_of (List.mem_of_getElem? (i := 425) (by decide +kernel)) rfl
theorem tw_426 : (Jvm.Cond.instanceMethod ({ cls := "RangeScheduler$Items", name := "erase", desc := "(I)V" } : Jvm.MethodName)) ∈ GT := GT_of (List.mem_of_getElem? (i := 426) (by decide +kernel)) rfl
theorem tw_427 : (Jvm.Cond.selects "RangeScheduler$Items" ({ cls := "RangeScheduler$Items", name := "erase", desc := "(I)V" } : Jvm.MethodName) ({ cls := "RangeScheduler$Items", name := "erase", desc := "(I)V" } : Jvm.MethodName)) ∈ GT := GT_of (List.mem_of_getElem? (i := 427) (by decide +kernel)) rfl
theorem tw_428 : (Jvm.Cond.code ({ cls := "RangeScheduler$Items", name := "erase", desc := "(I)V" } : Jvm.MethodName) prog_5_method_6_code (3 : Nat) (Option.none : Option Jvm.ClassFile.FieldType)) ∈ GT := GT_of (List.mem_of_getElem? (i := 428) (by decide +kernel)) rfl
theorem tw_429 : (Jvm.Cond.methodLink "RangeSchedulerLaw" (47 : Nat) ({ cls := "RangeScheduler", name := "access", desc := "(I)I" } : Jvm.MethodName)) ∈ GT := GT_of (List.mem_of_getElem? (i := 429) (by decide +kernel)) rfl
theorem tw_430 : (Jvm.Cond.instanceMethod ({ cls := "RangeScheduler", name := "access", desc := "(I)I" } : Jvm.MethodName)) ∈ GT := GT_of (List.mem_of_getElem? (i := 430) (by decide +kernel)) rfl
theorem tw_431 : (Jvm.Cond.selects "RangeScheduler" ({ cls := "RangeScheduler", name := "access", desc := "(I)I" } : Jvm.MethodName) ({ cls := "RangeScheduler", name := "access", desc := "(I)I" } : Jvm.MethodName)) ∈ GT := GT_of (List.mem_of_getElem? (i := 431) (by decide +kernel)) rfl
theorem tw_432 : (Jvm.Cond.code ({ cls := "RangeScheduler", name := "access", desc := "(I)I" } : Jvm.MethodName) prog_1_method_10_code (2 : Nat) (Option.some Jvm.ClassFile.FieldType.int)) ∈ GT := GT_of (List.mem_of_getElem? (i := 432) (by decide +kernel)) rfl
theorem tw_433 : (Jvm.Cond.methodLink "RangeScheduler" (122 : Nat) ({ cls := "RangeScheduler$Samples", name := "append", desc := "(I)V" } : Jvm.MethodName)) ∈ GT := GT_of (List.mem_of_getElem? (i := 433) (by decide +kernel)) rfl
theorem tw_434 : (Jvm.Cond.instanceMethod ({ cls := "RangeScheduler$Samples", name := "append", desc := "(I)V" } : Jvm.MethodName)) ∈ GT := GT_of (List.mem_of_getElem? (i := 434) (by decide +kernel)) rfl
theorem tw_435 : (Jvm.Cond.selects "RangeScheduler$Samples" ({ cls := "RangeScheduler$Samples", name := "append", desc := "(I)V" } : Jvm.MethodName) ({ cls := "RangeScheduler$Samples", name := "append", desc := "(I)V" } : Jvm.MethodName)) ∈ GT := GT_of (List.mem_of_getElem? (i := 435) (by decide +kernel)) rfl
theorem tw_436 : (Jvm.Cond.code ({ cls := "RangeScheduler$Samples", name := "append", desc := "(I)V" } : Jvm.MethodName) prog_8_method_2_code (2 : Nat) (Option.none : Option Jvm.ClassFile.FieldType)) ∈ GT := GT_of (List.mem_of_getElem? (i := 436) (by decide +kernel)) rfl
theorem tw_437 : (Jvm.Cond.methodLink "RangeScheduler$Samples" (19 : Nat) ({ cls := "java/lang/System", name := "arraycopy", desc := "(Ljava/lang/Object;ILjava/lang/Object;II)V" } : Jvm.MethodName)) ∈ GT := GT_of (List.mem_of_getElem? (i := 437) (by decide +kernel)) rfl
theorem tw_438 : (Jvm.Cond.methodLink "RangeScheduler" (136 : Nat) ({ cls := "RangeScheduler$Ranges", name := "holding", desc := "(I)I" } : Jvm.MethodName)) ∈ GT := GT_of (List.mem_of_getElem? (i := 438) (by decide +kernel)) rfl
theorem tw_439 : (Jvm.Cond.instanceMethod ({ cls := "RangeScheduler$Ranges", name := "holding", desc := "(I)I" } : Jvm.MethodName)) ∈ GT := GT_of (List.mem_of_getElem? (i := 439) (by decide +kernel)) rfl
theorem tw_440 : (Jvm.Cond.selects "RangeScheduler$Ranges" ({ cls := "RangeScheduler$Ranges", name := "holding", desc := "(I)I" } : Jvm.MethodName) ({ cls := "RangeScheduler$Ranges", name := "holding", desc := "(I)I" } : Jvm.MethodName)) ∈ GT := GT_of (List.mem_of_getElem? (i := 440) (by decide +kernel)) rfl
theorem tw_441 : (Jvm.Cond.code ({ cls := "RangeScheduler$Ranges", name := "holding", desc := "(I)I" } : Jvm.MethodName) prog_7_method_4_code (3 : Nat) (Option.some Jvm.ClassFile.FieldType.int)) ∈ GT := GT_of (List.mem_of_getElem? (i := 441) (by decide +kernel)) rfl
theorem tw_442 : (Jvm.Cond.methodLink "RangeSchedulerLaw" (51 : Nat) ({ cls := "RangeScheduler", name := "splitAt", desc := "(I)I" } : Jvm.MethodName)) ∈ GT := GT_of (List.mem_of_getElem? (i := 442) (by decide +kernel)) rfl
theorem tw_443 : (Jvm.Cond.instanceMethod ({ cls := "RangeScheduler", name := "splitAt", desc := "(I)I" } : Jvm.MethodName)) ∈ GT := GT_of (List.mem_of_getElem? (i := 443) (by decide +kernel)) rfl
theorem tw_444 : (Jvm.Cond.selects "RangeScheduler" ({ cls := "RangeScheduler", name := "splitAt", desc := "(I)I" } : Jvm.MethodName) ({ cls := "RangeScheduler", name := "splitAt", desc := "(I)I" } : Jvm.MethodName)) ∈ GT := GT_of (List.mem_of_getElem? (i := 444) (by decide +kernel)) rfl
theorem tw_445 : (Jvm.Cond.code ({ cls := "RangeScheduler", name := "splitAt", desc := "(I)I" } : Jvm.MethodName) prog_1_method_11_code (3 : Nat) (Option.some Jvm.ClassFile.FieldType.int)) ∈ GT := GT_of (List.mem_of_getElem? (i := 445) (by decide +kernel)) rfl
theorem tw_446 : (Jvm.Cond.methodLink "RangeScheduler" (142 : Nat) ({ cls := "RangeScheduler$Ranges", name := "hasLearner", desc := "(I)Z" } : Jvm.MethodName)) ∈ GT := GT_of (List.mem_of_getElem? (i := 446) (by decide +kernel)) rfl
theorem tw_447 : (Jvm.Cond.instanceMethod ({ cls := "RangeScheduler$Ranges", name := "hasLearner", desc := "(I)Z" } : Jvm.MethodName)) ∈ GT := GT_of (List.mem_of_getElem? (i := 447) (by decide +kernel)) rfl
theorem tw_448 : (Jvm.Cond.selects "RangeScheduler$Ranges" ({ cls := "RangeScheduler$Ranges", name := "hasLearner", desc := "(I)Z" } : Jvm.MethodName) ({ cls := "RangeScheduler$Ranges", name := "hasLearner", desc := "(I)Z" } : Jvm.MethodName)) ∈ GT := GT_of (List.mem_of_getElem? (i := 448) (by decide +kernel)) rfl
theorem tw_449 : (Jvm.Cond.code ({ cls := "RangeScheduler$Ranges", name := "hasLearner", desc := "(I)Z" } : Jvm.MethodName) prog_7_method_6_code (2 : Nat) (Option.some Jvm.ClassFile.FieldType.boolean)) ∈ GT := GT_of (List.mem_of_getElem? (i := 449) (by decide +kernel)) rfl
theorem tw_450 : (Jvm.Cond.methodLink "RangeScheduler" (145 : Nat) ({ cls := "RangeScheduler$Ranges", name := "isFull", desc := "()Z" } : Jvm.MethodName)) ∈ GT := GT_of (List.mem_of_getElem? (i := 450) (by decide +kernel)) rfl
theorem tw_451 : (Jvm.Cond.instanceMethod ({ cls := "RangeScheduler$Ranges", name := "isFull", desc := "()Z" } : Jvm.MethodName)) ∈ GT := GT_of (List.mem_of_getElem? (i := 451) (by decide +kernel)) rfl
theorem tw_452 : (Jvm.Cond.selects "RangeScheduler$Ranges" ({ cls := "RangeScheduler$Ranges", name := "isFull", desc := "()Z" } : Jvm.MethodName) ({ cls := "RangeScheduler$Ranges", name := "isFull", desc := "()Z" } : Jvm.MethodName)) ∈ GT := GT_of (List.mem_of_getElem? (i := 452) (by decide +kernel)) rfl
theorem tw_453 : (Jvm.Cond.code ({ cls := "RangeScheduler$Ranges", name := "isFull", desc := "()Z" } : Jvm.MethodName) prog_7_method_3_code (1 : Nat) (Option.some Jvm.ClassFile.FieldType.boolean)) ∈ GT := GT_of (List.mem_of_getElem? (i := 453) (by decide +kernel)) rfl
theorem tw_454 : (Jvm.Cond.methodLink "RangeScheduler" (149 : Nat) ({ cls := "RangeScheduler$Ranges", name := "divide", desc := "(II)V" } : Jvm.MethodName)) ∈ GT := GT_of (List.mem_of_getElem? (i := 454) (by decide +kernel)) rfl
theorem tw_455 : (Jvm.Cond.instanceMethod ({ cls := "RangeScheduler$Ranges", name := "divide", desc := "(II)V" } : Jvm.MethodName)) ∈ GT := GT_of (List.mem_of_getElem? (i := 455) (by decide +kernel)) rfl
theorem tw_456 : (Jvm.Cond.selects "RangeScheduler$Ranges" ({ cls := "RangeScheduler$Ranges", name := "divide", desc := "(II)V" } : Jvm.MethodName) ({ cls := "RangeScheduler$Ranges", name := "divide", desc := "(II)V" } : Jvm.MethodName)) ∈ GT := GT_of (List.mem_of_getElem? (i := 456) (by decide +kernel)) rfl
theorem tw_457 : (Jvm.Cond.code ({ cls := "RangeScheduler$Ranges", name := "divide", desc := "(II)V" } : Jvm.MethodName) prog_7_method_13_code (4 : Nat) (Option.none : Option Jvm.ClassFile.FieldType)) ∈ GT := GT_of (List.mem_of_getElem? (i := 457) (by decide +kernel)) rfl
theorem tw_458 : (Jvm.Cond.methodLink "RangeScheduler$Ranges" (46 : Nat) ({ cls := "RangeScheduler$Ranges", name := "isFull", desc := "()Z" } : Jvm.MethodName)) ∈ GT := GT_of (List.mem_of_getElem? (i := 458) (by decide +kernel)) rfl
theorem tw_459 : (Jvm.Cond.methodLink "RangeScheduler$Ranges" (50 : Nat) ({ cls := "RangeScheduler$Ranges", name := "copyWithin", desc := "(II)V" } : Jvm.MethodName)) ∈ GT := GT_of (List.mem_of_getElem? (i := 459) (by decide +kernel)) rfl
theorem tw_461 : (Jvm.Cond.instanceMethod ({ cls := "RangeScheduler$Ranges", name := "copyWithin", desc := "(II)V" } : Jvm.MethodName)) ∈ GT := GT_of (List.mem_of_getElem? (i := 461) (by decide +kernel)) rfl
theorem tw_462 : (Jvm.Cond.code ({ cls := "RangeScheduler$Ranges", name := "copyWithin", desc := "(II)V" } : Jvm.MethodName) prog_7_method_15_code (3 : Nat) (Option.none : Option Jvm.ClassFile.FieldType)) ∈ GT := GT_of (List.mem_of_getElem? (i := 462) (by decide +kernel)) rfl
theorem tw_463 : (Jvm.Cond.methodLink "RangeSchedulerLaw" (55 : Nat) ({ cls := "RangeScheduler", name := "sizeOf", desc := "(I)I" } : Jvm.MethodName)) ∈ GT := GT_of (List.mem_of_getElem? (i := 463) (by decide +kernel)) rfl
theorem tw_464 : (Jvm.Cond.instanceMethod ({ cls := "RangeScheduler", name := "sizeOf", desc := "(I)I" } : Jvm.MethodName)) ∈ GT := GT_of (List.mem_of_getElem? (i := 464) (by decide +kernel)) rfl
theorem tw_465 : (Jvm.Cond.selects "RangeScheduler" ({ cls := "RangeScheduler", name := "sizeOf", desc := "(I)I" } : Jvm.MethodName) ({ cls := "RangeScheduler", name := "sizeOf", desc := "(I)I" } : Jvm.MethodName)) ∈ GT := GT_of (List.mem_of_getElem? (i := 465) (by decide +kernel)) rfl
theorem tw_466 : (Jvm.Cond.code ({ cls := "RangeScheduler", name := "sizeOf", desc := "(I)I" } : Jvm.MethodName) prog_1_method_12_code (2 : Nat) (Option.some Jvm.ClassFile.FieldType.int)) ∈ GT := GT_of (List.mem_of_getElem? (i := 466) (by decide +kernel)) rfl
theorem tw_467 : (Jvm.Cond.methodLink "RangeSchedulerLaw" (59 : Nat) ({ cls := "RangeScheduler", name := "tick", desc := "()I" } : Jvm.MethodName)) ∈ GT := GT_of (List.mem_of_getElem? (i := 467) (by decide +kernel)) rfl
theorem tw_468 : (Jvm.Cond.instanceMethod ({ cls := "RangeScheduler", name := "tick", desc := "()I" } : Jvm.MethodName)) ∈ GT := GT_of (List.mem_of_getElem? (i := 468) (by decide +kernel)) rfl
theorem tw_469 : (Jvm.Cond.selects "RangeScheduler" ({ cls := "RangeScheduler", name := "tick", desc := "()I" } : Jvm.MethodName) ({ cls := "RangeScheduler", name := "tick", desc := "()I" } : Jvm.MethodName)) ∈ GT := GT_of (List.mem_of_getElem? (i := 469) (by decide +kernel)) rfl
theorem tw_470 : (Jvm.Cond.code ({ cls := "RangeScheduler", name := "tick", desc := "()I" } : Jvm.MethodName) prog_1_method_13_code (1 : Nat) (Option.some Jvm.ClassFile.FieldType.int)) ∈ GT := GT_of (List.mem_of_getElem? (i := 470) (by decide +kernel)) rfl
theorem tw_471 : (Jvm.Cond.methodLink "RangeScheduler" (152 : Nat) ({ cls := "RangeScheduler$Driver", name := "runTick", desc := "()I" } : Jvm.MethodName)) ∈ GT := GT_of (List.mem_of_getElem? (i := 471) (by decide +kernel)) rfl
theorem tw_472 : (Jvm.Cond.instanceMethod ({ cls := "RangeScheduler$Driver", name := "runTick", desc := "()I" } : Jvm.MethodName)) ∈ GT := GT_of (List.mem_of_getElem? (i := 472) (by decide +kernel)) rfl
theorem tw_473 : (Jvm.Cond.selects "RangeScheduler$Driver" ({ cls := "RangeScheduler$Driver", name := "runTick", desc := "()I" } : Jvm.MethodName) ({ cls := "RangeScheduler$Driver", name := "runTick", desc := "()I" } : Jvm.MethodName)) ∈ GT := GT_of (List.mem_of_getElem? (i := 473) (by decide +kernel)) rfl
theorem tw_474 : (Jvm.Cond.code ({ cls := "RangeScheduler$Driver", name := "runTick", desc := "()I" } : Jvm.MethodName) prog_3_method_2_code (3 : Nat) (Option.some Jvm.ClassFile.FieldType.int)) ∈ GT := GT_of (List.mem_of_getElem? (i := 474) (by decide +kernel)) rfl
theorem tw_475 : (Jvm.Cond.methodLink "RangeScheduler$Driver" (42 : Nat) ({ cls := "RangeScheduler$Driver", name := "advanceLearner", desc := "(I)V" } : Jvm.MethodName)) ∈ GT := GT_of (List.mem_of_getElem? (i := 475) (by decide +kernel)) rfl
theorem tw_477 : (Jvm.Cond.instanceMethod ({ cls := "RangeScheduler$Driver", name := "advanceLearner", desc := "(I)V" } : Jvm.MethodName)) ∈ GT := GT_of (List.mem_of_getElem? (i := 477) (by decide +kernel)) rfl
theorem tw_478 : (Jvm.Cond.code ({ cls := "RangeScheduler$Driver", name := "advanceLearner", desc := "(I)V" } : Jvm.MethodName) prog_3_method_3_code (4 : Nat) (Option.none : Option Jvm.ClassFile.FieldType)) ∈ GT := GT_of (List.mem_of_getElem? (i := 478) (by decide +kernel)) rfl
theorem tw_479 : (Jvm.Cond.methodLink "RangeScheduler$Driver" (57 : Nat) ({ cls := "RangeScheduler$Nodes", name := "isUp", desc := "(I)Z" } : Jvm.MethodName)) ∈ GT := GT_of (List.mem_of_getElem? (i := 479) (by decide +kernel)) rfl
theorem tw_480 : (Jvm.Cond.methodLink "RangeScheduler$Driver" (72 : Nat) ({ cls := "RangeScheduler$Ranges", name := "clearLearner", desc := "(I)V" } : Jvm.MethodName)) ∈ GT := GT_of (List.mem_of_getElem? (i := 480) (by decide +kernel)) rfl
theorem tw_482 : (Jvm.Cond.methodLink "RangeScheduler$Driver" (82 : Nat) ({ cls := "RangeScheduler$Cluster", name := "elect", desc := "(I)V" } : Jvm.MethodName)) ∈ GT := GT_of (List.mem_of_getElem? (i := 482) (by decide +kernel)) rfl
theorem tw_483 : (Jvm.Cond.methodLink "RangeScheduler$Driver" (46 : Nat) ({ cls := "RangeScheduler$Driver", name := "perform", desc := "(II)Z" } : Jvm.MethodName)) ∈ GT := GT_of (List.mem_of_getElem? (i := 483) (by decide +kernel)) rfl
theorem tw_485 : (Jvm.Cond.instanceMethod ({ cls := "RangeScheduler$Driver", name := "perform", desc := "(II)Z" } : Jvm.MethodName)) ∈ GT := GT_of (List.mem_of_getElem? (i := 485) (by decide +kernel)) rfl
theorem tw_486 : (Jvm.Cond.code ({ cls := "RangeScheduler$Driver", name := "perform", desc := "(II)Z" } : Jvm.MethodName) prog_3_method_4_code (3 : Nat) (Option.some Jvm.ClassFile.FieldType.boolean)) ∈ GT := GT_of (List.mem_of_getElem? (i := 486) (by decide +kernel)) rfl
theorem tw_487 : (Jvm.Cond.methodLink "RangeScheduler$Driver" (85 : Nat) ({ cls := "RangeScheduler$Driver", name := "create", desc := "(I)Z" } : Jvm.MethodName)) ∈ GT := GT_of (List.mem_of_getElem? (i := 487) (by decide +kernel)) rfl
theorem tw_489 : (Jvm.Cond.instanceMethod ({ cls := "RangeScheduler$Driver", name := "create", desc := "(I)Z" } : Jvm.MethodName)) ∈ GT := GT_of (List.mem_of_getElem? (i := 489) (by decide +kernel)) rfl
theorem tw_490 : (Jvm.Cond.code ({ cls := "RangeScheduler$Driver", name := "create", desc := "(I)Z" } : Jvm.MethodName) prog_3_method_5_code (3 : Nat) (Option.some Jvm.ClassFile.FieldType.boolean)) ∈ GT := GT_of (List.mem_of_getElem? (i := 490) (by decide +kernel)) rfl
theorem tw_491 : (Jvm.Cond.methodLink "RangeScheduler$Driver" (109 : Nat) ({ cls := "RangeScheduler$Driver", name := "choose", desc := "(II)I" } : Jvm.MethodName)) ∈ GT := GT_of (List.mem_of_getElem? (i := 491) (by decide +kernel)) rfl
theorem tw_493 : (Jvm.Cond.instanceMethod ({ cls := "RangeScheduler$Driver", name := "choose", desc := "(II)I" } : Jvm.MethodName)) ∈ GT := GT_of (List.mem_of_getElem? (i := 493) (by decide +kernel)) rfl
theorem tw_494 : (Jvm.Cond.code ({ cls := "RangeScheduler$Driver", name := "choose", desc := "(II)I" } : Jvm.MethodName) prog_3_method_17_code (10 : Nat) (Option.some Jvm.ClassFile.FieldType.int)) ∈ GT := GT_of (List.mem_of_getElem? (i := 494) (by decide +kernel)) rfl
theorem tw_495 : (Jvm.Cond.methodLink "RangeScheduler$Driver" (205 : Nat) ({ cls := "RangeScheduler$Ranges", name := "replicasOn", desc := "(I)I" } : Jvm.MethodName)) ∈ GT := GT_of (List.mem_of_getElem? (i := 495) (by decide +kernel)) rfl
theorem tw_496 : (Jvm.Cond.instanceMethod ({ cls := "RangeScheduler$Ranges", name := "replicasOn", desc := "(I)I" } : Jvm.MethodName)) ∈ GT := GT_of (List.mem_of_getElem? (i := 496) (by decide +kernel)) rfl
theorem tw_497 : (Jvm.Cond.selects "RangeScheduler$Ranges" ({ cls := "RangeScheduler$Ranges", name := "replicasOn", desc := "(I)I" } : Jvm.MethodName) ({ cls := "RangeScheduler$Ranges", name := "replicasOn", desc := "(I)I" } : Jvm.MethodName)) ∈ GT := GT_of (List.mem_of_getElem? (i := 497) (by decide +kernel)) rfl
theorem tw_498 : (Jvm.Cond.code ({ cls := "RangeScheduler$Ranges", name := "replicasOn", desc := "(I)I" } : Jvm.MethodName) prog_7_method_11_code (5 : Nat) (Option.some Jvm.ClassFile.FieldType.int)) ∈ GT := GT_of (List.mem_of_getElem? (i := 498) (by decide +kernel)) rfl
theorem tw_500 : (Jvm.Cond.methodLink "RangeScheduler$Driver" (148 : Nat) ({ cls := "RangeScheduler$Driver", name := "isFresh", desc := "(III)Z" } : Jvm.MethodName)) ∈ GT := GT_of (List.mem_of_getElem? (i := 500) (by decide +kernel)) rfl
theorem tw_502 : (Jvm.Cond.instanceMethod ({ cls := "RangeScheduler$Driver", name := "isFresh", desc := "(III)Z" } : Jvm.MethodName)) ∈ GT := GT_of (List.mem_of_getElem? (i := 502) (by decide +kernel)) rfl
theorem tw_503 : (Jvm.Cond.code ({ cls := "RangeScheduler$Driver", name := "isFresh", desc := "(III)Z" } : Jvm.MethodName) prog_3_method_18_code (5 : Nat) (Option.some Jvm.ClassFile.FieldType.boolean)) ∈ GT := GT_of (List.mem_of_getElem? (i := 503) (by decide +kernel)) rfl
theorem tw_504 : (Jvm.Cond.methodLink "RangeScheduler$Driver" (225 : Nat) ({ cls := "RangeScheduler$Nodes", name := "zonesOf", desc := "(I)I" } : Jvm.MethodName)) ∈ GT := GT_of (List.mem_of_getElem? (i := 504) (by decide +kernel)) rfl
theorem tw_505 : (Jvm.Cond.instanceMethod ({ cls := "RangeScheduler$Nodes", name := "zonesOf", desc := "(I)I" } : Jvm.MethodName)) ∈ GT := GT_of (List.mem_of_getElem? (i := 505) (by decide +kernel)) rfl
theorem tw_506 : (Jvm.Cond.selects "RangeScheduler$Nodes" ({ cls := "RangeScheduler$Nodes", name := "zonesOf", desc := "(I)I" } : Jvm.MethodName) ({ cls := "RangeScheduler$Nodes", name := "zonesOf", desc := "(I)I" } : Jvm.MethodName)) ∈ GT := GT_of (List.mem_of_getElem? (i := 506) (by decide +kernel)) rfl
theorem tw_507 : (Jvm.Cond.code ({ cls := "RangeScheduler$Nodes", name := "zonesOf", desc := "(I)I" } : Jvm.MethodName) prog_6_method_5_code (4 : Nat) (Option.some Jvm.ClassFile.FieldType.int)) ∈ GT := GT_of (List.mem_of_getElem? (i := 507) (by decide +kernel)) rfl
theorem tw_508 : (Jvm.Cond.methodLink "RangeScheduler$Driver" (88 : Nat) ({ cls := "RangeScheduler$Driver", name := "repair", desc := "(I)Z" } : Jvm.MethodName)) ∈ GT := GT_of (List.mem_of_getElem? (i := 508) (by decide +kernel)) rfl
theorem tw_510 : (Jvm.Cond.instanceMethod ({ cls := "RangeScheduler$Driver", name := "repair", desc := "(I)Z" } : Jvm.MethodName)) ∈ GT := GT_of (List.mem_of_getElem? (i := 510) (by decide +kernel)) rfl
theorem tw_511 : (Jvm.Cond.code ({ cls := "RangeScheduler$Driver", name := "repair", desc := "(I)Z" } : Jvm.MethodName) prog_3_method_6_code (4 : Nat) (Option.some Jvm.ClassFile.FieldType.boolean)) ∈ GT := GT_of (List.mem_of_getElem? (i := 511) (by decide +kernel)) rfl
theorem tw_512 : (Jvm.Cond.methodLink "RangeScheduler$Driver" (113 : Nat) ({ cls := "RangeScheduler$Ranges", name := "hasLearner", desc := "(I)Z" } : Jvm.MethodName)) ∈ GT := GT_of (List.mem_of_getElem? (i := 512) (by decide +kernel)) rfl
theorem tw_513 : (Jvm.Cond.methodLink "RangeScheduler$Driver" (116 : Nat) ({ cls := "RangeScheduler$Cluster", name := "hasQuorum", desc := "(I)Z" } : Jvm.MethodName)) ∈ GT := GT_of (List.mem_of_getElem? (i := 513) (by decide +kernel)) rfl
theorem tw_514 : (Jvm.Cond.methodLink "RangeScheduler$Driver" (119 : Nat) ({ cls := "RangeScheduler$Cluster", name := "votersUp", desc := "(I)I" } : Jvm.MethodName)) ∈ GT := GT_of (List.mem_of_getElem? (i := 514) (by decide +kernel)) rfl
theorem tw_515 : (Jvm.Cond.methodLink "RangeScheduler$Driver" (122 : Nat) ({ cls := "java/lang/Integer", name := "bitCount", desc := "(I)I" } : Jvm.MethodName)) ∈ GT := GT_of (List.mem_of_getElem? (i := 515) (by decide +kernel)) rfl
theorem tw_516 : (Jvm.Cond.methodLink "RangeScheduler$Driver" (132 : Nat) ({ cls := "RangeScheduler$Cluster", name := "votersDown", desc := "(I)I" } : Jvm.MethodName)) ∈ GT := GT_of (List.mem_of_getElem? (i := 516) (by decide +kernel)) rfl
theorem tw_517 : (Jvm.Cond.instanceMethod ({ cls := "RangeScheduler$Cluster", name := "votersDown", desc := "(I)I" } : Jvm.MethodName)) ∈ GT := GT_of (List.mem_of_getElem? (i := 517) (by decide +kernel)) rfl
theorem tw_518 : (Jvm.Cond.selects "RangeScheduler$Cluster" ({ cls := "RangeScheduler$Cluster", name := "votersDown", desc := "(I)I" } : Jvm.MethodName) ({ cls := "RangeScheduler$Cluster", name := "votersDown", desc := "(I)I" } : Jvm.MethodName)) ∈ GT := GT_of (List.mem_of_getElem? (i := 518) (by decide +kernel)) rfl
theorem tw_519 : (Jvm.Cond.code ({ cls := "RangeScheduler$Cluster", name := "votersDown", desc := "(I)I" } : Jvm.MethodName) prog_2_method_7_code (2 : Nat) (Option.some Jvm.ClassFile.FieldType.int)) ∈ GT := GT_of (List.mem_of_getElem? (i := 519) (by decide +kernel)) rfl
theorem tw_520 : (Jvm.Cond.methodLink "RangeScheduler$Driver" (135 : Nat) ({ cls := "RangeScheduler$Driver", name := "lowestOf", desc := "(I)I" } : Jvm.MethodName)) ∈ GT := GT_of (List.mem_of_getElem? (i := 520) (by decide +kernel)) rfl
theorem tw_522 : (Jvm.Cond.instanceMethod ({ cls := "RangeScheduler$Driver", name := "lowestOf", desc := "(I)I" } : Jvm.MethodName)) ∈ GT := GT_of (List.mem_of_getElem? (i := 522) (by decide +kernel)) rfl
theorem tw_523 : (Jvm.Cond.code ({ cls := "RangeScheduler$Driver", name := "lowestOf", desc := "(I)I" } : Jvm.MethodName) prog_3_method_19_code (3 : Nat) (Option.some Jvm.ClassFile.FieldType.int)) ∈ GT := GT_of (List.mem_of_getElem? (i := 523) (by decide +kernel)) rfl
theorem tw_524 : (Jvm.Cond.methodLink "RangeScheduler$Driver" (138 : Nat) ({ cls := "RangeScheduler$Driver", name := "teach", desc := "(III)V" } : Jvm.MethodName)) ∈ GT := GT_of (List.mem_of_getElem? (i := 524) (by decide +kernel)) rfl
theorem tw_526 : (Jvm.Cond.instanceMethod ({ cls := "RangeScheduler$Driver", name := "teach", desc := "(III)V" } : Jvm.MethodName)) ∈ GT := GT_of (List.mem_of_getElem? (i := 526) (by decide +kernel)) rfl
theorem tw_527 : (Jvm.Cond.code ({ cls := "RangeScheduler$Driver", name := "teach", desc := "(III)V" } : Jvm.MethodName) prog_3_method_16_code (4 : Nat) (Option.none : Option Jvm.ClassFile.FieldType)) ∈ GT := GT_of (List.mem_of_getElem? (i := 527) (by decide +kernel)) rfl
theorem tw_528 : (Jvm.Cond.methodLink "RangeScheduler$Driver" (156 : Nat) ({ cls := "RangeScheduler$Cluster", name := "rangeSize", desc := "(I)I" } : Jvm.MethodName)) ∈ GT := GT_of (List.mem_of_getElem? (i := 528) (by decide +kernel)) rfl
theorem tw_529 : (Jvm.Cond.instanceMethod ({ cls := "RangeScheduler$Cluster", name := "rangeSize", desc := "(I)I" } : Jvm.MethodName)) ∈ GT := GT_of (List.mem_of_getElem? (i := 529) (by decide +kernel)) rfl
theorem tw_530 : (Jvm.Cond.selects "RangeScheduler$Cluster" ({ cls := "RangeScheduler$Cluster", name := "rangeSize", desc := "(I)I" } : Jvm.MethodName) ({ cls := "RangeScheduler$Cluster", name := "rangeSize", desc := "(I)I" } : Jvm.MethodName)) ∈ GT := GT_of (List.mem_of_getElem? (i := 530) (by decide +kernel)) rfl
theorem tw_531 : (Jvm.Cond.code ({ cls := "RangeScheduler$Cluster", name := "rangeSize", desc := "(I)I" } : Jvm.MethodName) prog_2_method_2_code (2 : Nat) (Option.some Jvm.ClassFile.FieldType.int)) ∈ GT := GT_of (List.mem_of_getElem? (i := 531) (by decide +kernel)) rfl
theorem tw_532 : (Jvm.Cond.methodLink "RangeScheduler$Cluster" (53 : Nat) ({ cls := "RangeScheduler$Ranges", name := "endOf", desc := "(I)I" } : Jvm.MethodName)) ∈ GT := GT_of (List.mem_of_getElem? (i := 532) (by decide +kernel)) rfl
theorem tw_533 : (Jvm.Cond.instanceMethod ({ cls := "RangeScheduler$Ranges", name := "endOf", desc := "(I)I" } : Jvm.MethodName)) ∈ GT := GT_of (List.mem_of_getElem? (i := 533) (by decide +kernel)) rfl
theorem tw_534 : (Jvm.Cond.selects "RangeScheduler$Ranges" ({ cls := "RangeScheduler$Ranges", name := "endOf", desc := "(I)I" } : Jvm.MethodName) ({ cls := "RangeScheduler$Ranges", name := "endOf", desc := "(I)I" } : Jvm.MethodName)) ∈ GT := GT_of (List.mem_of_getElem? (i := 534) (by decide +kernel)) rfl
theorem tw_535 : (Jvm.Cond.code ({ cls := "RangeScheduler$Ranges", name := "endOf", desc := "(I)I" } : Jvm.MethodName) prog_7_method_5_code (2 : Nat) (Option.some Jvm.ClassFile.FieldType.int)) ∈ GT := GT_of (List.mem_of_getElem? (i := 535) (by decide +kernel)) rfl
theorem tw_536 : (Jvm.Cond.methodLink "RangeScheduler$Cluster" (57 : Nat) ({ cls := "RangeScheduler$Items", name := "sumBetween", desc := "(II)I" } : Jvm.MethodName)) ∈ GT := GT_of (List.mem_of_getElem? (i := 536) (by decide +kernel)) rfl
theorem tw_537 : (Jvm.Cond.instanceMethod ({ cls := "RangeScheduler$Items", name := "sumBetween", desc := "(II)I" } : Jvm.MethodName)) ∈ GT := GT_of (List.mem_of_getElem? (i := 537) (by decide +kernel)) rfl
theorem tw_538 : (Jvm.Cond.selects "RangeScheduler$Items" ({ cls := "RangeScheduler$Items", name := "sumBetween", desc := "(II)I" } : Jvm.MethodName) ({ cls := "RangeScheduler$Items", name := "sumBetween", desc := "(II)I" } : Jvm.MethodName)) ∈ GT := GT_of (List.mem_of_getElem? (i := 538) (by decide +kernel)) rfl
theorem tw_539 : (Jvm.Cond.code ({ cls := "RangeScheduler$Items", name := "sumBetween", desc := "(II)I" } : Jvm.MethodName) prog_5_method_7_code (5 : Nat) (Option.some Jvm.ClassFile.FieldType.int)) ∈ GT := GT_of (List.mem_of_getElem? (i := 539) (by decide +kernel)) rfl
theorem tw_540 : (Jvm.Cond.methodLink "RangeScheduler$Driver" (211 : Nat) ({ cls := "RangeScheduler$Settings", name := "learnerTicks", desc := "(I)I" } : Jvm.MethodName)) ∈ GT := GT_of (List.mem_of_getElem? (i := 540) (by decide +kernel)) rfl
theorem tw_541 : (Jvm.Cond.instanceMethod ({ cls := "RangeScheduler$Settings", name := "learnerTicks", desc := "(I)I" } : Jvm.MethodName)) ∈ GT := GT_of (List.mem_of_getElem? (i := 541) (by decide +kernel)) rfl
theorem tw_542 : (Jvm.Cond.selects "RangeScheduler$Settings" ({ cls := "RangeScheduler$Settings", name := "learnerTicks", desc := "(I)I" } : Jvm.MethodName) ({ cls := "RangeScheduler$Settings", name := "learnerTicks", desc := "(I)I" } : Jvm.MethodName)) ∈ GT := GT_of (List.mem_of_getElem? (i := 542) (by decide +kernel)) rfl
theorem tw_543 : (Jvm.Cond.code ({ cls := "RangeScheduler$Settings", name := "learnerTicks", desc := "(I)I" } : Jvm.MethodName) prog_9_method_2_code (2 : Nat) (Option.some Jvm.ClassFile.FieldType.int)) ∈ GT := GT_of (List.mem_of_getElem? (i := 543) (by decide +kernel)) rfl
theorem tw_544 : (Jvm.Cond.methodLink "RangeScheduler$Driver" (214 : Nat) ({ cls := "RangeScheduler$Ranges", name := "setLearner", desc := "(IIII)V" } : Jvm.MethodName)) ∈ GT := GT_of (List.mem_of_getElem? (i := 544) (by decide +kernel)) rfl
theorem tw_545 : (Jvm.Cond.methodLink "RangeScheduler$Driver" (91 : Nat) ({ cls := "RangeScheduler$Driver", name := "spread", desc := "(I)Z" } : Jvm.MethodName)) ∈ GT := GT_of (List.mem_of_getElem? (i := 545) (by decide +kernel)) rfl
theorem tw_547 : (Jvm.Cond.instanceMethod ({ cls := "RangeScheduler$Driver", name := "spread", desc := "(I)Z" } : Jvm.MethodName)) ∈ GT := GT_of (List.mem_of_getElem? (i := 547) (by decide +kernel)) rfl
theorem tw_548 : (Jvm.Cond.code ({ cls := "RangeScheduler$Driver", name := "spread", desc := "(I)Z" } : Jvm.MethodName) prog_3_method_7_code (4 : Nat) (Option.some Jvm.ClassFile.FieldType.boolean)) ∈ GT := GT_of (List.mem_of_getElem? (i := 548) (by decide +kernel)) rfl
theorem tw_549 : (Jvm.Cond.methodLink "RangeScheduler$Driver" (142 : Nat) ({ cls := "RangeScheduler$Driver", name := "isWhole", desc := "(I)Z" } : Jvm.MethodName)) ∈ GT := GT_of (List.mem_of_getElem? (i := 549) (by decide +kernel)) rfl
theorem tw_551 : (Jvm.Cond.instanceMethod ({ cls := "RangeScheduler$Driver", name := "isWhole", desc := "(I)Z" } : Jvm.MethodName)) ∈ GT := GT_of (List.mem_of_getElem? (i := 551) (by decide +kernel)) rfl
theorem tw_552 : (Jvm.Cond.code ({ cls := "RangeScheduler$Driver", name := "isWhole", desc := "(I)Z" } : Jvm.MethodName) prog_3_method_15_code (2 : Nat) (Option.some Jvm.ClassFile.FieldType.boolean)) ∈ GT := GT_of (List.mem_of_getElem? (i := 552) (by decide +kernel)) rfl
theorem tw_553 : (Jvm.Cond.methodLink "RangeScheduler$Driver" (145 : Nat) ({ cls := "RangeScheduler$Driver", name := "highestSharingZone", desc := "(I)I" } : Jvm.MethodName)) ∈ GT := GT_of (List.mem_of_getElem? (i := 553) (by decide +kernel)) rfl
theorem tw_555 : (Jvm.Cond.instanceMethod ({ cls := "RangeScheduler$Driver", name := "highestSharingZone", desc := "(I)I" } : Jvm.MethodName)) ∈ GT := GT_of (List.mem_of_getElem? (i := 555) (by decide +kernel)) rfl
theorem tw_556 : (Jvm.Cond.code ({ cls := "RangeScheduler$Driver", name := "highestSharingZone", desc := "(I)I" } : Jvm.MethodName) prog_3_method_20_code (4 : Nat) (Option.some Jvm.ClassFile.FieldType.int)) ∈ GT := GT_of (List.mem_of_getElem? (i := 556) (by decide +kernel)) rfl
theorem tw_557 : (Jvm.Cond.methodLink "RangeScheduler$Driver" (94 : Nat) ({ cls := "RangeScheduler$Driver", name := "splitBySize", desc := "(I)Z" } : Jvm.MethodName)) ∈ GT := GT_of (List.mem_of_getElem? (i := 557) (by decide +kernel)) rfl
theorem tw_559 : (Jvm.Cond.instanceMethod ({ cls := "RangeScheduler$Driver", name := "splitBySize", desc := "(I)Z" } : Jvm.MethodName)) ∈ GT := GT_of (List.mem_of_getElem? (i := 559) (by decide +kernel)) rfl
theorem tw_560 : (Jvm.Cond.code ({ cls := "RangeScheduler$Driver", name := "splitBySize", desc := "(I)Z" } : Jvm.MethodName) prog_3_method_8_code (2 : Nat) (Option.some Jvm.ClassFile.FieldType.boolean)) ∈ GT := GT_of (List.mem_of_getElem? (i := 560) (by decide +kernel)) rfl
theorem tw_561 : (Jvm.Cond.methodLink "RangeScheduler$Driver" (152 : Nat) ({ cls := "RangeScheduler$Ranges", name := "isFull", desc := "()Z" } : Jvm.MethodName)) ∈ GT := GT_of (List.mem_of_getElem? (i := 561) (by decide +kernel)) rfl
theorem tw_562 : (Jvm.Cond.methodLink "RangeScheduler$Driver" (162 : Nat) ({ cls := "RangeScheduler$Cluster", name := "sizeSplitKey", desc := "(I)I" } : Jvm.MethodName)) ∈ GT := GT_of (List.mem_of_getElem? (i := 562) (by decide +kernel)) rfl
theorem tw_563 : (Jvm.Cond.instanceMethod ({ cls := "RangeScheduler$Cluster", name := "sizeSplitKey", desc := "(I)I" } : Jvm.MethodName)) ∈ GT := GT_of (List.mem_of_getElem? (i := 563) (by decide +kernel)) rfl
theorem tw_564 : (Jvm.Cond.selects "RangeScheduler$Cluster" ({ cls := "RangeScheduler$Cluster", name := "sizeSplitKey", desc := "(I)I" } : Jvm.MethodName) ({ cls := "RangeScheduler$Cluster", name := "sizeSplitKey", desc := "(I)I" } : Jvm.MethodName)) ∈ GT := GT_of (List.mem_of_getElem? (i := 564) (by decide +kernel)) rfl
theorem tw_565 : (Jvm.Cond.code ({ cls := "RangeScheduler$Cluster", name := "sizeSplitKey", desc := "(I)I" } : Jvm.MethodName) prog_2_method_4_code (2 : Nat) (Option.some Jvm.ClassFile.FieldType.int)) ∈ GT := GT_of (List.mem_of_getElem? (i := 565) (by decide +kernel)) rfl
theorem tw_566 : (Jvm.Cond.methodLink "RangeScheduler$Cluster" (64 : Nat) ({ cls := "RangeScheduler$Items", name := "splitKeyBetween", desc := "(II)I" } : Jvm.MethodName)) ∈ GT := GT_of (List.mem_of_getElem? (i := 566) (by decide +kernel)) rfl
theorem tw_567 : (Jvm.Cond.instanceMethod ({ cls := "RangeScheduler$Items", name := "splitKeyBetween", desc := "(II)I" } : Jvm.MethodName)) ∈ GT := GT_of (List.mem_of_getElem? (i := 567) (by decide +kernel)) rfl
theorem tw_568 : (Jvm.Cond.selects "RangeScheduler$Items" ({ cls := "RangeScheduler$Items", name := "splitKeyBetween", desc := "(II)I" } : Jvm.MethodName) ({ cls := "RangeScheduler$Items", name := "splitKeyBetween", desc := "(II)I" } : Jvm.MethodName)) ∈ GT := GT_of (List.mem_of_getElem? (i := 568) (by decide +kernel)) rfl
theorem tw_569 : (Jvm.Cond.code ({ cls := "RangeScheduler$Items", name := "splitKeyBetween", desc := "(II)I" } : Jvm.MethodName) prog_5_method_8_code (8 : Nat) (Option.some Jvm.ClassFile.FieldType.int)) ∈ GT := GT_of (List.mem_of_getElem? (i := 569) (by decide +kernel)) rfl
theorem tw_570 : (Jvm.Cond.methodLink "RangeScheduler$Items" (36 : Nat) ({ cls := "RangeScheduler$Items", name := "sumBetween", desc := "(II)I" } : Jvm.MethodName)) ∈ GT := GT_of (List.mem_of_getElem? (i := 570) (by decide +kernel)) rfl
theorem tw_571 : (Jvm.Cond.methodLink "RangeScheduler$Driver" (165 : Nat) ({ cls := "RangeScheduler$Driver", name := "divideAt", desc := "(II)Z" } : Jvm.MethodName)) ∈ GT := GT_of (List.mem_of_getElem? (i := 571) (by decide +kernel)) rfl
theorem tw_573 : (Jvm.Cond.instanceMethod ({ cls := "RangeScheduler$Driver", name := "divideAt", desc := "(II)Z" } : Jvm.MethodName)) ∈ GT := GT_of (List.mem_of_getElem? (i := 573) (by decide +kernel)) rfl
theorem tw_574 : (Jvm.Cond.code ({ cls := "RangeScheduler$Driver", name := "divideAt", desc := "(II)Z" } : Jvm.MethodName) prog_3_method_10_code (3 : Nat) (Option.some Jvm.ClassFile.FieldType.boolean)) ∈ GT := GT_of (List.mem_of_getElem? (i := 574) (by decide +kernel)) rfl
theorem tw_575 : (Jvm.Cond.methodLink "RangeScheduler$Driver" (177 : Nat) ({ cls := "RangeScheduler$Ranges", name := "divide", desc := "(II)V" } : Jvm.MethodName)) ∈ GT := GT_of (List.mem_of_getElem? (i := 575) (by decide +kernel)) rfl
theorem tw_576 : (Jvm.Cond.methodLink "RangeScheduler$Driver" (97 : Nat) ({ cls := "RangeScheduler$Driver", name := "splitByLoad", desc := "(I)Z" } : Jvm.MethodName)) ∈ GT := GT_of (List.mem_of_getElem? (i := 576) (by decide +kernel)) rfl
theorem tw_578 : (Jvm.Cond.instanceMethod ({ cls := "RangeScheduler$Driver", name := "splitByLoad", desc := "(I)Z" } : Jvm.MethodName)) ∈ GT := GT_of (List.mem_of_getElem? (i := 578) (by decide +kernel)) rfl
theorem tw_579 : (Jvm.Cond.code ({ cls := "RangeScheduler$Driver", name := "splitByLoad", desc := "(I)Z" } : Jvm.MethodName) prog_3_method_9_code (2 : Nat) (Option.some Jvm.ClassFile.FieldType.boolean)) ∈ GT := GT_of (List.mem_of_getElem? (i := 579) (by decide +kernel)) rfl
theorem tw_580 : (Jvm.Cond.methodLink "RangeScheduler$Driver" (168 : Nat) ({ cls := "RangeScheduler$Cluster", name := "rangeLoad", desc := "(I)I" } : Jvm.MethodName)) ∈ GT := GT_of (List.mem_of_getElem? (i := 580) (by decide +kernel)) rfl
theorem tw_581 : (Jvm.Cond.instanceMethod ({ cls := "RangeScheduler$Cluster", name := "rangeLoad", desc := "(I)I" } : Jvm.MethodName)) ∈ GT := GT_of (List.mem_of_getElem? (i := 581) (by decide +kernel)) rfl
theorem tw_582 : (Jvm.Cond.selects "RangeScheduler$Cluster" ({ cls := "RangeScheduler$Cluster", name := "rangeLoad", desc := "(I)I" } : Jvm.MethodName) ({ cls := "RangeScheduler$Cluster", name := "rangeLoad", desc := "(I)I" } : Jvm.MethodName)) ∈ GT := GT_of (List.mem_of_getElem? (i := 582) (by decide +kernel)) rfl
theorem tw_583 : (Jvm.Cond.code ({ cls := "RangeScheduler$Cluster", name := "rangeLoad", desc := "(I)I" } : Jvm.MethodName) prog_2_method_3_code (2 : Nat) (Option.some Jvm.ClassFile.FieldType.int)) ∈ GT := GT_of (List.mem_of_getElem? (i := 583) (by decide +kernel)) rfl
theorem tw_584 : (Jvm.Cond.methodLink "RangeScheduler$Cluster" (61 : Nat) ({ cls := "RangeScheduler$Samples", name := "countBetween", desc := "(II)I" } : Jvm.MethodName)) ∈ GT := GT_of (List.mem_of_getElem? (i := 584) (by decide +kernel)) rfl
theorem tw_585 : (Jvm.Cond.instanceMethod ({ cls := "RangeScheduler$Samples", name := "countBetween", desc := "(II)I" } : Jvm.MethodName)) ∈ GT := GT_of (List.mem_of_getElem? (i := 585) (by decide +kernel)) rfl
theorem tw_586 : (Jvm.Cond.selects "RangeScheduler$Samples" ({ cls := "RangeScheduler$Samples", name := "countBetween", desc := "(II)I" } : Jvm.MethodName) ({ cls := "RangeScheduler$Samples", name := "countBetween", desc := "(II)I" } : Jvm.MethodName)) ∈ GT := GT_of (List.mem_of_getElem? (i := 586) (by decide +kernel)) rfl
theorem tw_587 : (Jvm.Cond.code ({ cls := "RangeScheduler$Samples", name := "countBetween", desc := "(II)I" } : Jvm.MethodName) prog_8_method_3_code (5 : Nat) (Option.some Jvm.ClassFile.FieldType.int)) ∈ GT := GT_of (List.mem_of_getElem? (i := 587) (by decide +kernel)) rfl
theorem tw_588 : (Jvm.Cond.methodLink "RangeScheduler$Driver" (174 : Nat) ({ cls := "RangeScheduler$Cluster", name := "loadSplitKey", desc := "(I)I" } : Jvm.MethodName)) ∈ GT := GT_of (List.mem_of_getElem? (i := 588) (by decide +kernel)) rfl
theorem tw_589 : (Jvm.Cond.instanceMethod ({ cls := "RangeScheduler$Cluster", name := "loadSplitKey", desc := "(I)I" } : Jvm.MethodName)) ∈ GT := GT_of (List.mem_of_getElem? (i := 589) (by decide +kernel)) rfl
theorem tw_590 : (Jvm.Cond.selects "RangeScheduler$Cluster" ({ cls := "RangeScheduler$Cluster", name := "loadSplitKey", desc := "(I)I" } : Jvm.MethodName) ({ cls := "RangeScheduler$Cluster", name := "loadSplitKey", desc := "(I)I" } : Jvm.MethodName)) ∈ GT := GT_of (List.mem_of_getElem? (i := 590) (by decide +kernel)) rfl
theorem tw_591 : (Jvm.Cond.code ({ cls := "RangeScheduler$Cluster", name := "loadSplitKey", desc := "(I)I" } : Jvm.MethodName) prog_2_method_5_code (2 : Nat) (Option.some Jvm.ClassFile.FieldType.int)) ∈ GT := GT_of (List.mem_of_getElem? (i := 591) (by decide +kernel)) rfl
theorem tw_592 : (Jvm.Cond.methodLink "RangeScheduler$Cluster" (67 : Nat) ({ cls := "RangeScheduler$Samples", name := "splitKeyBetween", desc := "(II)I" } : Jvm.MethodName)) ∈ GT := GT_of (List.mem_of_getElem? (i := 592) (by decide +kernel)) rfl
theorem tw_593 : (Jvm.Cond.instanceMethod ({ cls := "RangeScheduler$Samples", name := "splitKeyBetween", desc := "(II)I" } : Jvm.MethodName)) ∈ GT := GT_of (List.mem_of_getElem? (i := 593) (by decide +kernel)) rfl
theorem tw_594 : (Jvm.Cond.selects "RangeScheduler$Samples" ({ cls := "RangeScheduler$Samples", name := "splitKeyBetween", desc := "(II)I" } : Jvm.MethodName) ({ cls := "RangeScheduler$Samples", name := "splitKeyBetween", desc := "(II)I" } : Jvm.MethodName)) ∈ GT := GT_of (List.mem_of_getElem? (i := 594) (by decide +kernel)) rfl
theorem tw_595 : (Jvm.Cond.code ({ cls := "RangeScheduler$Samples", name := "splitKeyBetween", desc := "(II)I" } : Jvm.MethodName) prog_8_method_5_code (7 : Nat) (Option.some Jvm.ClassFile.FieldType.int)) ∈ GT := GT_of (List.mem_of_getElem? (i := 595) (by decide +kernel)) rfl
theorem tw_596 : (Jvm.Cond.methodLink "RangeScheduler$Samples" (25 : Nat) ({ cls := "RangeScheduler$Samples", name := "countBetween", desc := "(II)I" } : Jvm.MethodName)) ∈ GT := GT_of (List.mem_of_getElem? (i := 596) (by decide +kernel)) rfl
theorem tw_597 : (Jvm.Cond.methodLink "RangeScheduler$Samples" (29 : Nat) ({ cls := "RangeScheduler$Samples", name := "leastBetween", desc := "(II)I" } : Jvm.MethodName)) ∈ GT := GT_of (List.mem_of_getElem? (i := 597) (by decide +kernel)) rfl
theorem tw_599 : (Jvm.Cond.instanceMethod ({ cls := "RangeScheduler$Samples", name := "leastBetween", desc := "(II)I" } : Jvm.MethodName)) ∈ GT := GT_of (List.mem_of_getElem? (i := 599) (by decide +kernel)) rfl
theorem tw_600 : (Jvm.Cond.code ({ cls := "RangeScheduler$Samples", name := "leastBetween", desc := "(II)I" } : Jvm.MethodName) prog_8_method_4_code (5 : Nat) (Option.some Jvm.ClassFile.FieldType.int)) ∈ GT := GT_of (List.mem_of_getElem? (i := 600) (by decide +kernel)) rfl
theorem tw_601 : (Jvm.Cond.methodLink "RangeScheduler$Driver" (100 : Nat) ({ cls := "RangeScheduler$Driver", name := "merge", desc := "(I)Z" } : Jvm.MethodName)) ∈ GT := GT_of (List.mem_of_getElem? (i := 601) (by decide +kernel)) rfl
theorem tw_603 : (Jvm.Cond.instanceMethod ({ cls := "RangeScheduler$Driver", name := "merge", desc := "(I)Z" } : Jvm.MethodName)) ∈ GT := GT_of (List.mem_of_getElem? (i := 603) (by decide +kernel)) rfl
theorem tw_604 : (Jvm.Cond.code ({ cls := "RangeScheduler$Driver", name := "merge", desc := "(I)Z" } : Jvm.MethodName) prog_3_method_11_code (3 : Nat) (Option.some Jvm.ClassFile.FieldType.boolean)) ∈ GT := GT_of (List.mem_of_getElem? (i := 604) (by decide +kernel)) rfl
theorem tw_605 : (Jvm.Cond.methodLink "RangeScheduler$Driver" (181 : Nat) ({ cls := "RangeScheduler$Driver", name := "isCold", desc := "(I)Z" } : Jvm.MethodName)) ∈ GT := GT_of (List.mem_of_getElem? (i := 605) (by decide +kernel)) rfl
theorem tw_607 : (Jvm.Cond.instanceMethod ({ cls := "RangeScheduler$Driver", name := "isCold", desc := "(I)Z" } : Jvm.MethodName)) ∈ GT := GT_of (List.mem_of_getElem? (i := 607) (by decide +kernel)) rfl
theorem tw_608 : (Jvm.Cond.code ({ cls := "RangeScheduler$Driver", name := "isCold", desc := "(I)Z" } : Jvm.MethodName) prog_3_method_12_code (2 : Nat) (Option.some Jvm.ClassFile.FieldType.boolean)) ∈ GT := GT_of (List.mem_of_getElem? (i := 608) (by decide +kernel)) rfl
theorem tw_609 : (Jvm.Cond.methodLink "RangeScheduler$Driver" (184 : Nat) ({ cls := "RangeScheduler$Ranges", name := "absorbNext", desc := "(I)V" } : Jvm.MethodName)) ∈ GT := GT_of (List.mem_of_getElem? (i := 609) (by decide +kernel)) rfl
theorem tw_610 : (Jvm.Cond.instanceMethod ({ cls := "RangeScheduler$Ranges", name := "absorbNext", desc := "(I)V" } : Jvm.MethodName)) ∈ GT := GT_of (List.mem_of_getElem? (i := 610) (by decide +kernel)) rfl
theorem tw_611 : (Jvm.Cond.selects "RangeScheduler$Ranges" ({ cls := "RangeScheduler$Ranges", name := "absorbNext", desc := "(I)V" } : Jvm.MethodName) ({ cls := "RangeScheduler$Ranges", name := "absorbNext", desc := "(I)V" } : Jvm.MethodName)) ∈ GT := GT_of (List.mem_of_getElem? (i := 611) (by decide +kernel)) rfl
theorem tw_612 : (Jvm.Cond.code ({ cls := "RangeScheduler$Ranges", name := "absorbNext", desc := "(I)V" } : Jvm.MethodName) prog_7_method_14_code (3 : Nat) (Option.none : Option Jvm.ClassFile.FieldType)) ∈ GT := GT_of (List.mem_of_getElem? (i := 612) (by decide +kernel)) rfl
theorem tw_613 : (Jvm.Cond.methodLink "RangeScheduler$Driver" (103 : Nat) ({ cls := "RangeScheduler$Driver", name := "shiftLeader", desc := "(I)Z" } : Jvm.MethodName)) ∈ GT := GT_of (List.mem_of_getElem? (i := 613) (by decide +kernel)) rfl
theorem tw_615 : (Jvm.Cond.instanceMethod ({ cls := "RangeScheduler$Driver", name := "shiftLeader", desc := "(I)Z" } : Jvm.MethodName)) ∈ GT := GT_of (List.mem_of_getElem? (i := 615) (by decide +kernel)) rfl
theorem tw_616 : (Jvm.Cond.code ({ cls := "RangeScheduler$Driver", name := "shiftLeader", desc := "(I)Z" } : Jvm.MethodName) prog_3_method_13_code (4 : Nat) (Option.some Jvm.ClassFile.FieldType.boolean)) ∈ GT := GT_of (List.mem_of_getElem? (i := 616) (by decide +kernel)) rfl
theorem tw_617 : (Jvm.Cond.methodLink "RangeScheduler$Driver" (193 : Nat) ({ cls := "RangeScheduler$Cluster", name := "leastLeading", desc := "(I)I" } : Jvm.MethodName)) ∈ GT := GT_of (List.mem_of_getElem? (i := 617) (by decide +kernel)) rfl
theorem tw_618 : (Jvm.Cond.methodLink "RangeScheduler$Driver" (196 : Nat) ({ cls := "RangeScheduler$Ranges", name := "ledBy", desc := "(I)I" } : Jvm.MethodName)) ∈ GT := GT_of (List.mem_of_getElem? (i := 618) (by decide +kernel)) rfl
theorem tw_619 : (Jvm.Cond.methodLink "RangeScheduler$Driver" (106 : Nat) ({ cls := "RangeScheduler$Driver", name := "shiftReplica", desc := "(I)Z" } : Jvm.MethodName)) ∈ GT := GT_of (List.mem_of_getElem? (i := 619) (by decide +kernel)) rfl
theorem tw_621 : (Jvm.Cond.instanceMethod ({ cls := "RangeScheduler$Driver", name := "shiftReplica", desc := "(I)Z" } : Jvm.MethodName)) ∈ GT := GT_of (List.mem_of_getElem? (i := 621) (by decide +kernel)) rfl
theorem tw_622 : (Jvm.Cond.code ({ cls := "RangeScheduler$Driver", name := "shiftReplica", desc := "(I)Z" } : Jvm.MethodName) prog_3_method_14_code (4 : Nat) (Option.some Jvm.ClassFile.FieldType.boolean)) ∈ GT := GT_of (List.mem_of_getElem? (i := 622) (by decide +kernel)) rfl
theorem tw_623 : (Jvm.Cond.methodLink "RangeScheduler$Driver" (199 : Nat) ({ cls := "RangeScheduler$Driver", name := "mostLoaded", desc := "(I)I" } : Jvm.MethodName)) ∈ GT := GT_of (List.mem_of_getElem? (i := 623) (by decide +kernel)) rfl
theorem tw_625 : (Jvm.Cond.instanceMethod ({ cls := "RangeScheduler$Driver", name := "mostLoaded", desc := "(I)I" } : Jvm.MethodName)) ∈ GT := GT_of (List.mem_of_getElem? (i := 625) (by decide +kernel)) rfl
theorem tw_626 : (Jvm.Cond.code ({ cls := "RangeScheduler$Driver", name := "mostLoaded", desc := "(I)I" } : Jvm.MethodName) prog_3_method_21_code (5 : Nat) (Option.some Jvm.ClassFile.FieldType.int)) ∈ GT := GT_of (List.mem_of_getElem? (i := 626) (by decide +kernel)) rfl
theorem tw_627 : (Jvm.Cond.methodLink "RangeScheduler$Driver" (202 : Nat) ({ cls := "RangeScheduler$Nodes", name := "exists", desc := "(I)Z" } : Jvm.MethodName)) ∈ GT := GT_of (List.mem_of_getElem? (i := 627) (by decide +kernel)) rfl
theorem tw_628 : (Jvm.Cond.methodLink "RangeSchedulerLaw" (64 : Nat) ({ cls := "RangeScheduler", name := "settle", desc := "(I)I" } : Jvm.MethodName)) ∈ GT := GT_of (List.mem_of_getElem? (i := 628) (by decide +kernel)) rfl
theorem tw_629 : (Jvm.Cond.instanceMethod ({ cls := "RangeScheduler", name := "settle", desc := "(I)I" } : Jvm.MethodName)) ∈ GT := GT_of (List.mem_of_getElem? (i := 629) (by decide +kernel)) rfl
theorem tw_630 : (Jvm.Cond.selects "RangeScheduler" ({ cls := "RangeScheduler", name := "settle", desc := "(I)I" } : Jvm.MethodName) ({ cls := "RangeScheduler", name := "settle", desc := "(I)I" } : Jvm.MethodName)) ∈ GT := GT_of (List.mem_of_getElem? (i := 630) (by decide +kernel)) rfl
theorem tw_631 : (Jvm.Cond.code ({ cls := "RangeScheduler", name := "settle", desc := "(I)I" } : Jvm.MethodName) prog_1_method_14_code (5 : Nat) (Option.some Jvm.ClassFile.FieldType.int)) ∈ GT := GT_of (List.mem_of_getElem? (i := 631) (by decide +kernel)) rfl
theorem tw_632 : (Jvm.Cond.methodLink "RangeScheduler" (155 : Nat) ({ cls := "RangeScheduler$Ranges", name := "anyLearner", desc := "()Z" } : Jvm.MethodName)) ∈ GT := GT_of (List.mem_of_getElem? (i := 632) (by decide +kernel)) rfl
theorem tw_633 : (Jvm.Cond.instanceMethod ({ cls := "RangeScheduler$Ranges", name := "anyLearner", desc := "()Z" } : Jvm.MethodName)) ∈ GT := GT_of (List.mem_of_getElem? (i := 633) (by decide +kernel)) rfl
theorem tw_634 : (Jvm.Cond.selects "RangeScheduler$Ranges" ({ cls := "RangeScheduler$Ranges", name := "anyLearner", desc := "()Z" } : Jvm.MethodName) ({ cls := "RangeScheduler$Ranges", name := "anyLearner", desc := "()Z" } : Jvm.MethodName)) ∈ GT := GT_of (List.mem_of_getElem? (i := 634) (by decide +kernel)) rfl
theorem tw_635 : (Jvm.Cond.code ({ cls := "RangeScheduler$Ranges", name := "anyLearner", desc := "()Z" } : Jvm.MethodName) prog_7_method_7_code (2 : Nat) (Option.some Jvm.ClassFile.FieldType.boolean)) ∈ GT := GT_of (List.mem_of_getElem? (i := 635) (by decide +kernel)) rfl
theorem tw_636 : (Jvm.Cond.methodLink "RangeScheduler$Ranges" (34 : Nat) ({ cls := "RangeScheduler$Ranges", name := "hasLearner", desc := "(I)Z" } : Jvm.MethodName)) ∈ GT := GT_of (List.mem_of_getElem? (i := 636) (by decide +kernel)) rfl
theorem tw_637 : (Jvm.Cond.methodLink "RangeSchedulerLaw" (68 : Nat) ({ cls := "RangeScheduler", name := "performed", desc := "(I)I" } : Jvm.MethodName)) ∈ GT := GT_of (List.mem_of_getElem? (i := 637) (by decide +kernel)) rfl
theorem tw_638 : (Jvm.Cond.instanceMethod ({ cls := "RangeScheduler", name := "performed", desc := "(I)I" } : Jvm.MethodName)) ∈ GT := GT_of (List.mem_of_getElem? (i := 638) (by decide +kernel)) rfl
theorem tw_639 : (Jvm.Cond.selects "RangeScheduler" ({ cls := "RangeScheduler", name := "performed", desc := "(I)I" } : Jvm.MethodName) ({ cls := "RangeScheduler", name := "performed", desc := "(I)I" } : Jvm.MethodName)) ∈ GT := GT_of (List.mem_of_getElem? (i := 639) (by decide +kernel)) rfl
theorem tw_640 : (Jvm.Cond.code ({ cls := "RangeScheduler", name := "performed", desc := "(I)I" } : Jvm.MethodName) prog_1_method_15_code (2 : Nat) (Option.some Jvm.ClassFile.FieldType.int)) ∈ GT := GT_of (List.mem_of_getElem? (i := 640) (by decide +kernel)) rfl
theorem tw_641 : (Jvm.Cond.methodLink "RangeSchedulerLaw" (72 : Nat) ({ cls := "RangeScheduler", name := "time", desc := "()I" } : Jvm.MethodName)) ∈ GT := GT_of (List.mem_of_getElem? (i := 641) (by decide +kernel)) rfl
theorem tw_642 : (Jvm.Cond.instanceMethod ({ cls := "RangeScheduler", name := "time", desc := "()I" } : Jvm.MethodName)) ∈ GT := GT_of (List.mem_of_getElem? (i := 642) (by decide +kernel)) rfl
theorem tw_643 : (Jvm.Cond.selects "RangeScheduler" ({ cls := "RangeScheduler", name := "time", desc := "()I" } : Jvm.MethodName) ({ cls := "RangeScheduler", name := "time", desc := "()I" } : Jvm.MethodName)) ∈ GT := GT_of (List.mem_of_getElem? (i := 643) (by decide +kernel)) rfl
theorem tw_644 : (Jvm.Cond.code ({ cls := "RangeScheduler", name := "time", desc := "()I" } : Jvm.MethodName) prog_1_method_16_code (1 : Nat) (Option.some Jvm.ClassFile.FieldType.int)) ∈ GT := GT_of (List.mem_of_getElem? (i := 644) (by decide +kernel)) rfl
theorem tw_645 : (Jvm.Cond.methodLink "RangeSchedulerLaw" (76 : Nat) ({ cls := "RangeScheduler", name := "rangeCount", desc := "()I" } : Jvm.MethodName)) ∈ GT := GT_of (List.mem_of_getElem? (i := 645) (by decide +kernel)) rfl
theorem tw_646 : (Jvm.Cond.instanceMethod ({ cls := "RangeScheduler", name := "rangeCount", desc := "()I" } : Jvm.MethodName)) ∈ GT := GT_of (List.mem_of_getElem? (i := 646) (by decide +kernel)) rfl
theorem tw_647 : (Jvm.Cond.selects "RangeScheduler" ({ cls := "RangeScheduler", name := "rangeCount", desc := "()I" } : Jvm.MethodName) ({ cls := "RangeScheduler", name := "rangeCount", desc := "()I" } : Jvm.MethodName)) ∈ GT := GT_of (List.mem_of_getElem? (i := 647) (by decide +kernel)) rfl
theorem tw_648 : (Jvm.Cond.code ({ cls := "RangeScheduler", name := "rangeCount", desc := "()I" } : Jvm.MethodName) prog_1_method_17_code (1 : Nat) (Option.some Jvm.ClassFile.FieldType.int)) ∈ GT := GT_of (List.mem_of_getElem? (i := 648) (by decide +kernel)) rfl
theorem tw_649 : (Jvm.Cond.methodLink "RangeSchedulerLaw" (80 : Nat) ({ cls := "RangeScheduler", name := "start", desc := "(I)I" } : Jvm.MethodName)) ∈ GT := GT_of (List.mem_of_getElem? (i := 649) (by decide +kernel)) rfl
theorem tw_650 : (Jvm.Cond.instanceMethod ({ cls := "RangeScheduler", name := "start", desc := "(I)I" } : Jvm.MethodName)) ∈ GT := GT_of (List.mem_of_getElem? (i := 650) (by decide +kernel)) rfl
theorem tw_651 : (Jvm.Cond.selects "RangeScheduler" ({ cls := "RangeScheduler", name := "start", desc := "(I)I" } : Jvm.MethodName) ({ cls := "RangeScheduler", name := "start", desc := "(I)I" } : Jvm.MethodName)) ∈ GT := GT_of (List.mem_of_getElem? (i := 651) (by decide +kernel)) rfl
theorem tw_652 : (Jvm.Cond.code ({ cls := "RangeScheduler", name := "start", desc := "(I)I" } : Jvm.MethodName) prog_1_method_18_code (2 : Nat) (Option.some Jvm.ClassFile.FieldType.int)) ∈ GT := GT_of (List.mem_of_getElem? (i := 652) (by decide +kernel)) rfl
theorem tw_653 : (Jvm.Cond.methodLink "RangeScheduler" (165 : Nat) ({ cls := "RangeScheduler$Ranges", name := "exists", desc := "(I)Z" } : Jvm.MethodName)) ∈ GT := GT_of (List.mem_of_getElem? (i := 653) (by decide +kernel)) rfl
theorem tw_654 : (Jvm.Cond.instanceMethod ({ cls := "RangeScheduler$Ranges", name := "exists", desc := "(I)Z" } : Jvm.MethodName)) ∈ GT := GT_of (List.mem_of_getElem? (i := 654) (by decide +kernel)) rfl
theorem tw_655 : (Jvm.Cond.selects "RangeScheduler$Ranges" ({ cls := "RangeScheduler$Ranges", name := "exists", desc := "(I)Z" } : Jvm.MethodName) ({ cls := "RangeScheduler$Ranges", name := "exists", desc := "(I)Z" } : Jvm.MethodName)) ∈ GT := GT_of (List.mem_of_getElem? (i := 655) (by decide +kernel)) rfl
theorem tw_656 : (Jvm.Cond.code ({ cls := "RangeScheduler$Ranges", name := "exists", desc := "(I)Z" } : Jvm.MethodName) prog_7_method_2_code (2 : Nat) (Option.some Jvm.ClassFile.FieldType.boolean)) ∈ GT := GT_of (List.mem_of_getElem? (i := 656) (by decide +kernel)) rfl
theorem tw_657 : (Jvm.Cond.methodLink "RangeSchedulerLaw" (84 : Nat) ({ cls := "RangeScheduler", name := "size", desc := "(I)I" } : Jvm.MethodName)) ∈ GT := GT_of (List.mem_of_getElem? (i := 657) (by decide +kernel)) rfl
theorem tw_658 : (Jvm.Cond.instanceMethod ({ cls := "RangeScheduler", name := "size", desc := "(I)I" } : Jvm.MethodName)) ∈ GT := GT_of (List.mem_of_getElem? (i := 658) (by decide +kernel)) rfl
theorem tw_659 : (Jvm.Cond.selects "RangeScheduler" ({ cls := "RangeScheduler", name := "size", desc := "(I)I" } : Jvm.MethodName) ({ cls := "RangeScheduler", name := "size", desc := "(I)I" } : Jvm.MethodName)) ∈ GT := GT_of (List.mem_of_getElem? (i := 659) (by decide +kernel)) rfl
theorem tw_660 : (Jvm.Cond.code ({ cls := "RangeScheduler", name := "size", desc := "(I)I" } : Jvm.MethodName) prog_1_method_19_code (2 : Nat) (Option.some Jvm.ClassFile.FieldType.int)) ∈ GT := GT_of (List.mem_of_getElem? (i := 660) (by decide +kernel)) rfl
theorem tw_661 : (Jvm.Cond.methodLink "RangeScheduler" (166 : Nat) ({ cls := "RangeScheduler$Cluster", name := "rangeSize", desc := "(I)I" } : Jvm.MethodName)) ∈ GT := GT_of (List.mem_of_getElem? (i := 661) (by decide +kernel)) rfl
theorem tw_662 : (Jvm.Cond.methodLink "RangeSchedulerLaw" (88 : Nat) ({ cls := "RangeScheduler", name := "load", desc := "(I)I" } : Jvm.MethodName)) ∈ GT := GT_of (List.mem_of_getElem? (i := 662) (by decide +kernel)) rfl
theorem tw_663 : (Jvm.Cond.instanceMethod ({ cls := "RangeScheduler", name := "load", desc := "(I)I" } : Jvm.MethodName)) ∈ GT := GT_of (List.mem_of_getElem? (i := 663) (by decide +kernel)) rfl
theorem tw_664 : (Jvm.Cond.selects "RangeScheduler" ({ cls := "RangeScheduler", name := "load", desc := "(I)I" } : Jvm.MethodName) ({ cls := "RangeScheduler", name := "load", desc := "(I)I" } : Jvm.MethodName)) ∈ GT := GT_of (List.mem_of_getElem? (i := 664) (by decide +kernel)) rfl
theorem tw_665 : (Jvm.Cond.code ({ cls := "RangeScheduler", name := "load", desc := "(I)I" } : Jvm.MethodName) prog_1_method_20_code (2 : Nat) (Option.some Jvm.ClassFile.FieldType.int)) ∈ GT := GT_of (List.mem_of_getElem? (i := 665) (by decide +kernel)) rfl
theorem tw_666 : (Jvm.Cond.methodLink "RangeScheduler" (169 : Nat) ({ cls := "RangeScheduler$Cluster", name := "rangeLoad", desc := "(I)I" } : Jvm.MethodName)) ∈ GT := GT_of (List.mem_of_getElem? (i := 666) (by decide +kernel)) rfl
theorem tw_667 : (Jvm.Cond.methodLink "RangeSchedulerLaw" (92 : Nat) ({ cls := "RangeScheduler", name := "rangeOf", desc := "(I)I" } : Jvm.MethodName)) ∈ GT := GT_of (List.mem_of_getElem? (i := 667) (by decide +kernel)) rfl
theorem tw_668 : (Jvm.Cond.instanceMethod ({ cls := "RangeScheduler", name := "rangeOf", desc := "(I)I" } : Jvm.MethodName)) ∈ GT := GT_of (List.mem_of_getElem? (i := 668) (by decide +kernel)) rfl
theorem tw_669 : (Jvm.Cond.selects "RangeScheduler" ({ cls := "RangeScheduler", name := "rangeOf", desc := "(I)I" } : Jvm.MethodName) ({ cls := "RangeScheduler", name := "rangeOf", desc := "(I)I" } : Jvm.MethodName)) ∈ GT := GT_of (List.mem_of_getElem? (i := 669) (by decide +kernel)) rfl
theorem tw_670 : (Jvm.Cond.code ({ cls := "RangeScheduler", name := "rangeOf", desc := "(I)I" } : Jvm.MethodName) prog_1_method_21_code (2 : Nat) (Option.some Jvm.ClassFile.FieldType.int)) ∈ GT := GT_of (List.mem_of_getElem? (i := 670) (by decide +kernel)) rfl
theorem tw_671 : (Jvm.Cond.methodLink "RangeSchedulerLaw" (96 : Nat) ({ cls := "RangeScheduler", name := "voters", desc := "(I)I" } : Jvm.MethodName)) ∈ GT := GT_of (List.mem_of_getElem? (i := 671) (by decide +kernel)) rfl
theorem tw_672 : (Jvm.Cond.instanceMethod ({ cls := "RangeScheduler", name := "voters", desc := "(I)I" } : Jvm.MethodName)) ∈ GT := GT_of (List.mem_of_getElem? (i := 672) (by decide +kernel)) rfl
theorem tw_673 : (Jvm.Cond.selects "RangeScheduler" ({ cls := "RangeScheduler", name := "voters", desc := "(I)I" } : Jvm.MethodName) ({ cls := "RangeScheduler", name := "voters", desc := "(I)I" } : Jvm.MethodName)) ∈ GT := GT_of (List.mem_of_getElem? (i := 673) (by decide +kernel)) rfl
theorem tw_674 : (Jvm.Cond.code ({ cls := "RangeScheduler", name := "voters", desc := "(I)I" } : Jvm.MethodName) prog_1_method_22_code (2 : Nat) (Option.some Jvm.ClassFile.FieldType.int)) ∈ GT := GT_of (List.mem_of_getElem? (i := 674) (by decide +kernel)) rfl
theorem tw_675 : (Jvm.Cond.methodLink "RangeSchedulerLaw" (100 : Nat) ({ cls := "RangeScheduler", name := "leader", desc := "(I)I" } : Jvm.MethodName)) ∈ GT := GT_of (List.mem_of_getElem? (i := 675) (by decide +kernel)) rfl
theorem tw_676 : (Jvm.Cond.instanceMethod ({ cls := "RangeScheduler", name := "leader", desc := "(I)I" } : Jvm.MethodName)) ∈ GT := GT_of (List.mem_of_getElem? (i := 676) (by decide +kernel)) rfl
theorem tw_677 : (Jvm.Cond.selects "RangeScheduler" ({ cls := "RangeScheduler", name := "leader", desc := "(I)I" } : Jvm.MethodName) ({ cls := "RangeScheduler", name := "leader", desc := "(I)I" } : Jvm.MethodName)) ∈ GT := GT_of (List.mem_of_getElem? (i := 677) (by decide +kernel)) rfl
theorem tw_678 : (Jvm.Cond.code ({ cls := "RangeScheduler", name := "leader", desc := "(I)I" } : Jvm.MethodName) prog_1_method_23_code (2 : Nat) (Option.some Jvm.ClassFile.FieldType.int)) ∈ GT := GT_of (List.mem_of_getElem? (i := 678) (by decide +kernel)) rfl
theorem tw_679 : (Jvm.Cond.methodLink "RangeSchedulerLaw" (104 : Nat) ({ cls := "RangeScheduler", name := "learner", desc := "(I)I" } : Jvm.MethodName)) ∈ GT := GT_of (List.mem_of_getElem? (i := 679) (by decide +kernel)) rfl
theorem tw_680 : (Jvm.Cond.instanceMethod ({ cls := "RangeScheduler", name := "learner", desc := "(I)I" } : Jvm.MethodName)) ∈ GT := GT_of (List.mem_of_getElem? (i := 680) (by decide +kernel)) rfl
theorem tw_681 : (Jvm.Cond.selects "RangeScheduler" ({ cls := "RangeScheduler", name := "learner", desc := "(I)I" } : Jvm.MethodName) ({ cls := "RangeScheduler", name := "learner", desc := "(I)I" } : Jvm.MethodName)) ∈ GT := GT_of (List.mem_of_getElem? (i := 681) (by decide +kernel)) rfl
theorem tw_682 : (Jvm.Cond.code ({ cls := "RangeScheduler", name := "learner", desc := "(I)I" } : Jvm.MethodName) prog_1_method_24_code (2 : Nat) (Option.some Jvm.ClassFile.FieldType.int)) ∈ GT := GT_of (List.mem_of_getElem? (i := 682) (by decide +kernel)) rfl
theorem tw_683 : (Jvm.Cond.methodLink "RangeScheduler" (175 : Nat) ({ cls := "RangeScheduler$Ranges", name := "learnerCode", desc := "(I)I" } : Jvm.MethodName)) ∈ GT := GT_of (List.mem_of_getElem? (i := 683) (by decide +kernel)) rfl
theorem tw_684 : (Jvm.Cond.instanceMethod ({ cls := "RangeScheduler$Ranges", name := "learnerCode", desc := "(I)I" } : Jvm.MethodName)) ∈ GT := GT_of (List.mem_of_getElem? (i := 684) (by decide +kernel)) rfl
theorem tw_685 : (Jvm.Cond.selects "RangeScheduler$Ranges" ({ cls := "RangeScheduler$Ranges", name := "learnerCode", desc := "(I)I" } : Jvm.MethodName) ({ cls := "RangeScheduler$Ranges", name := "learnerCode", desc := "(I)I" } : Jvm.MethodName)) ∈ GT := GT_of (List.mem_of_getElem? (i := 685) (by decide +kernel)) rfl
theorem tw_686 : (Jvm.Cond.code ({ cls := "RangeScheduler$Ranges", name := "learnerCode", desc := "(I)I" } : Jvm.MethodName) prog_7_method_8_code (2 : Nat) (Option.some Jvm.ClassFile.FieldType.int)) ∈ GT := GT_of (List.mem_of_getElem? (i := 686) (by decide +kernel)) rfl
theorem tw_687 : (Jvm.Cond.methodLink "RangeSchedulerLaw" (108 : Nat) ({ cls := "RangeScheduler", name := "isAvailable", desc := "(I)I" } : Jvm.MethodName)) ∈ GT := GT_of (List.mem_of_getElem? (i := 687) (by decide +kernel)) rfl
theorem tw_688 : (Jvm.Cond.instanceMethod ({ cls := "RangeScheduler", name := "isAvailable", desc := "(I)I" } : Jvm.MethodName)) ∈ GT := GT_of (List.mem_of_getElem? (i := 688) (by decide +kernel)) rfl
theorem tw_689 : (Jvm.Cond.selects "RangeScheduler" ({ cls := "RangeScheduler", name := "isAvailable", desc := "(I)I" } : Jvm.MethodName) ({ cls := "RangeScheduler", name := "isAvailable", desc := "(I)I" } : Jvm.MethodName)) ∈ GT := GT_of (List.mem_of_getElem? (i := 689) (by decide +kernel)) rfl
theorem tw_690 : (Jvm.Cond.code ({ cls := "RangeScheduler", name := "isAvailable", desc := "(I)I" } : Jvm.MethodName) prog_1_method_25_code (2 : Nat) (Option.some Jvm.ClassFile.FieldType.int)) ∈ GT := GT_of (List.mem_of_getElem? (i := 690) (by decide +kernel)) rfl
theorem tw_691 : (Jvm.Cond.methodLink "RangeScheduler" (178 : Nat) ({ cls := "RangeScheduler$Cluster", name := "hasQuorum", desc := "(I)Z" } : Jvm.MethodName)) ∈ GT := GT_of (List.mem_of_getElem? (i := 691) (by decide +kernel)) rfl
theorem tw_692 : (Jvm.Cond.methodLink "RangeSchedulerLaw" (112 : Nat) ({ cls := "RangeScheduler", name := "splitKey", desc := "(II)I" } : Jvm.MethodName)) ∈ GT := GT_of (List.mem_of_getElem? (i := 692) (by decide +kernel)) rfl
theorem tw_693 : (Jvm.Cond.instanceMethod ({ cls := "RangeScheduler", name := "splitKey", desc := "(II)I" } : Jvm.MethodName)) ∈ GT := GT_of (List.mem_of_getElem? (i := 693) (by decide +kernel)) rfl
theorem tw_694 : (Jvm.Cond.selects "RangeScheduler" ({ cls := "RangeScheduler", name := "splitKey", desc := "(II)I" } : Jvm.MethodName) ({ cls := "RangeScheduler", name := "splitKey", desc := "(II)I" } : Jvm.MethodName)) ∈ GT := GT_of (List.mem_of_getElem? (i := 694) (by decide +kernel)) rfl
theorem tw_695 : (Jvm.Cond.code ({ cls := "RangeScheduler", name := "splitKey", desc := "(II)I" } : Jvm.MethodName) prog_1_method_26_code (3 : Nat) (Option.some Jvm.ClassFile.FieldType.int)) ∈ GT := GT_of (List.mem_of_getElem? (i := 695) (by decide +kernel)) rfl
theorem tw_696 : (Jvm.Cond.methodLink "RangeScheduler" (181 : Nat) ({ cls := "RangeScheduler$Cluster", name := "sizeSplitKey", desc := "(I)I" } : Jvm.MethodName)) ∈ GT := GT_of (List.mem_of_getElem? (i := 696) (by decide +kernel)) rfl
theorem tw_697 : (Jvm.Cond.methodLink "RangeScheduler" (184 : Nat) ({ cls := "RangeScheduler$Cluster", name := "loadSplitKey", desc := "(I)I" } : Jvm.MethodName)) ∈ GT := GT_of (List.mem_of_getElem? (i := 697) (by decide +kernel)) rfl
theorem tw_698 : (Jvm.Cond.methodLink "RangeSchedulerLaw" (116 : Nat) ({ cls := "RangeScheduler", name := "replicas", desc := "(I)I" } : Jvm.MethodName)) ∈ GT := GT_of (List.mem_of_getElem? (i := 698) (by decide +kernel)) rfl
theorem tw_699 : (Jvm.Cond.instanceMethod ({ cls := "RangeScheduler", name := "replicas", desc := "(I)I" } : Jvm.MethodName)) ∈ GT := GT_of (List.mem_of_getElem? (i := 699) (by decide +kernel)) rfl
theorem tw_700 : (Jvm.Cond.selects "RangeScheduler" ({ cls := "RangeScheduler", name := "replicas", desc := "(I)I" } : Jvm.MethodName) ({ cls := "RangeScheduler", name := "replicas", desc := "(I)I" } : Jvm.MethodName)) ∈ GT := GT_of (List.mem_of_getElem? (i := 700) (by decide +kernel)) rfl
theorem tw_701 : (Jvm.Cond.code ({ cls := "RangeScheduler", name := "replicas", desc := "(I)I" } : Jvm.MethodName) prog_1_method_27_code (2 : Nat) (Option.some Jvm.ClassFile.FieldType.int)) ∈ GT := GT_of (List.mem_of_getElem? (i := 701) (by decide +kernel)) rfl
theorem tw_702 : (Jvm.Cond.methodLink "RangeScheduler" (187 : Nat) ({ cls := "RangeScheduler$Ranges", name := "replicasOn", desc := "(I)I" } : Jvm.MethodName)) ∈ GT := GT_of (List.mem_of_getElem? (i := 702) (by decide +kernel)) rfl
theorem tw_703 : (Jvm.Cond.methodLink "RangeSchedulerLaw" (120 : Nat) ({ cls := "RangeScheduler", name := "leaders", desc := "(I)I" } : Jvm.MethodName)) ∈ GT := GT_of (List.mem_of_getElem? (i := 703) (by decide +kernel)) rfl
theorem tw_704 : (Jvm.Cond.instanceMethod ({ cls := "RangeScheduler", name := "leaders", desc := "(I)I" } : Jvm.MethodName)) ∈ GT := GT_of (List.mem_of_getElem? (i := 704) (by decide +kernel)) rfl
theorem tw_705 : (Jvm.Cond.selects "RangeScheduler" ({ cls := "RangeScheduler", name := "leaders", desc := "(I)I" } : Jvm.MethodName) ({ cls := "RangeScheduler", name := "leaders", desc := "(I)I" } : Jvm.MethodName)) ∈ GT := GT_of (List.mem_of_getElem? (i := 705) (by decide +kernel)) rfl
theorem tw_706 : (Jvm.Cond.code ({ cls := "RangeScheduler", name := "leaders", desc := "(I)I" } : Jvm.MethodName) prog_1_method_28_code (2 : Nat) (Option.some Jvm.ClassFile.FieldType.int)) ∈ GT := GT_of (List.mem_of_getElem? (i := 706) (by decide +kernel)) rfl
theorem tw_707 : (Jvm.Cond.methodLink "RangeScheduler" (190 : Nat) ({ cls := "RangeScheduler$Ranges", name := "ledBy", desc := "(I)I" } : Jvm.MethodName)) ∈ GT := GT_of (List.mem_of_getElem? (i := 707) (by decide +kernel)) rfl
theorem tw_708 : (Jvm.Cond.methodLink "RangeSchedulerLaw" (124 : Nat) ({ cls := "RangeScheduler", name := "undo", desc := "()I" } : Jvm.MethodName)) ∈ GT := GT_of (List.mem_of_getElem? (i := 708) (by decide +kernel)) rfl
theorem tw_709 : (Jvm.Cond.instanceMethod ({ cls := "RangeScheduler", name := "undo", desc := "()I" } : Jvm.MethodName)) ∈ GT := GT_of (List.mem_of_getElem? (i := 709) (by decide +kernel)) rfl
theorem tw_710 : (Jvm.Cond.selects "RangeScheduler" ({ cls := "RangeScheduler", name := "undo", desc := "()I" } : Jvm.MethodName) ({ cls := "RangeScheduler", name := "undo", desc := "()I" } : Jvm.MethodName)) ∈ GT := GT_of (List.mem_of_getElem? (i := 710) (by decide +kernel)) rfl
theorem tw_711 : (Jvm.Cond.code ({ cls := "RangeScheduler", name := "undo", desc := "()I" } : Jvm.MethodName) prog_1_method_29_code (1 : Nat) (Option.some Jvm.ClassFile.FieldType.int)) ∈ GT := GT_of (List.mem_of_getElem? (i := 711) (by decide +kernel)) rfl
theorem tw_712 : (Jvm.Cond.methodLink "RangeScheduler" (194 : Nat) ({ cls := "RangeScheduler$History", name := "restoreInto", desc := "(LRangeScheduler$Cluster;)V" } : Jvm.MethodName)) ∈ GT := GT_of (List.mem_of_getElem? (i := 712) (by decide +kernel)) rfl
theorem tw_713 : (Jvm.Cond.instanceMethod ({ cls := "RangeScheduler$History", name := "restoreInto", desc := "(LRangeScheduler$Cluster;)V" } : Jvm.MethodName)) ∈ GT := GT_of (List.mem_of_getElem? (i := 713) (by decide +kernel)) rfl
theorem tw_714 : (Jvm.Cond.selects "RangeScheduler$History" ({ cls := "RangeScheduler$History", name := "restoreInto", desc := "(LRangeScheduler$Cluster;)V" } : Jvm.MethodName) ({ cls := "RangeScheduler$History", name := "restoreInto", desc := "(LRangeScheduler$Cluster;)V" } : Jvm.MethodName)) ∈ GT := GT_of (List.mem_of_getElem? (i := 714) (by decide +kernel)) rfl
theorem tw_715 : (Jvm.Cond.code ({ cls := "RangeScheduler$History", name := "restoreInto", desc := "(LRangeScheduler$Cluster;)V" } : Jvm.MethodName) prog_4_method_3_code (4 : Nat) (Option.none : Option Jvm.ClassFile.FieldType)) ∈ GT := GT_of (List.mem_of_getElem? (i := 715) (by decide +kernel)) rfl
theorem tw_716 : (Jvm.Cond.methodLink "RangeSchedulerLaw" (128 : Nat) ({ cls := "RangeScheduler", name := "errorCount", desc := "(I)I" } : Jvm.MethodName)) ∈ GT := GT_of (List.mem_of_getElem? (i := 716) (by decide +kernel)) rfl
theorem tw_717 : (Jvm.Cond.instanceMethod ({ cls := "RangeScheduler", name := "errorCount", desc := "(I)I" } : Jvm.MethodName)) ∈ GT := GT_of (List.mem_of_getElem? (i := 717) (by decide +kernel)) rfl
theorem tw_718 : (Jvm.Cond.selects "RangeScheduler" ({ cls := "RangeScheduler", name := "errorCount", desc := "(I)I" } : Jvm.MethodName) ({ cls := "RangeScheduler", name := "errorCount", desc := "(I)I" } : Jvm.MethodName)) ∈ GT := GT_of (List.mem_of_getElem? (i := 718) (by decide +kernel)) rfl
theorem tw_719 : (Jvm.Cond.code ({ cls := "RangeScheduler", name := "errorCount", desc := "(I)I" } : Jvm.MethodName) prog_1_method_30_code (2 : Nat) (Option.some Jvm.ClassFile.FieldType.int)) ∈ GT := GT_of (List.mem_of_getElem? (i := 719) (by decide +kernel)) rfl
theorem tw_720 : (Jvm.Cond.methodLink "RangeSchedulerLaw" (132 : Nat) ({ cls := "RangeScheduler", name := "digest", desc := "()J" } : Jvm.MethodName)) ∈ GT := GT_of (List.mem_of_getElem? (i := 720) (by decide +kernel)) rfl
theorem tw_721 : (Jvm.Cond.instanceMethod ({ cls := "RangeScheduler", name := "digest", desc := "()J" } : Jvm.MethodName)) ∈ GT := GT_of (List.mem_of_getElem? (i := 721) (by decide +kernel)) rfl
theorem tw_722 : (Jvm.Cond.selects "RangeScheduler" ({ cls := "RangeScheduler", name := "digest", desc := "()J" } : Jvm.MethodName) ({ cls := "RangeScheduler", name := "digest", desc := "()J" } : Jvm.MethodName)) ∈ GT := GT_of (List.mem_of_getElem? (i := 722) (by decide +kernel)) rfl
theorem tw_723 : (Jvm.Cond.code ({ cls := "RangeScheduler", name := "digest", desc := "()J" } : Jvm.MethodName) prog_1_method_31_code (4 : Nat) (Option.some Jvm.ClassFile.FieldType.long)) ∈ GT := GT_of (List.mem_of_getElem? (i := 723) (by decide +kernel)) rfl
theorem tw_724 : (Jvm.Cond.constantLong "RangeScheduler" (206 : Nat) (12532 : Int64)) ∈ GT := GT_of (List.mem_of_getElem? (i := 724) (by decide +kernel)) rfl
theorem tw_725 : (Jvm.Cond.methodLink "RangeScheduler" (208 : Nat) ({ cls := "RangeScheduler", name := "mix", desc := "(JI)J" } : Jvm.MethodName)) ∈ GT := GT_of (List.mem_of_getElem? (i := 725) (by decide +kernel)) rfl
theorem tw_726 : (Jvm.Cond.static ({ cls := "RangeScheduler", name := "mix", desc := "(JI)J" } : Jvm.MethodName)) ∈ GT := GT_of (List.mem_of_getElem? (i := 726) (by decide +kernel)) rfl
theorem tw_727 : (Jvm.Cond.code ({ cls := "RangeScheduler", name := "mix", desc := "(JI)J" } : Jvm.MethodName) prog_1_method_36_code (3 : Nat) (Option.some Jvm.ClassFile.FieldType.long)) ∈ GT := GT_of (List.mem_of_getElem? (i := 727) (by decide +kernel)) rfl
theorem tw_728 : (Jvm.Cond.constantLong "RangeScheduler" (239 : Nat) (31 : Int64)) ∈ GT := GT_of (List.mem_of_getElem? (i := 728) (by decide +kernel)) rfl
theorem tw_729 : (Jvm.Cond.methodLink "RangeScheduler" (212 : Nat) ({ cls := "RangeScheduler", name := "mixSettings", desc := "(J)J" } : Jvm.MethodName)) ∈ GT := GT_of (List.mem_of_getElem? (i := 729) (by decide +kernel)) rfl
theorem tw_731 : (Jvm.Cond.instanceMethod ({ cls := "RangeScheduler", name := "mixSettings", desc := "(J)J" } : Jvm.MethodName)) ∈ GT := GT_of (List.mem_of_getElem? (i := 731) (by decide +kernel)) rfl
theorem tw_732 : (Jvm.Cond.code ({ cls := "RangeScheduler", name := "mixSettings", desc := "(J)J" } : Jvm.MethodName) prog_1_method_32_code (6 : Nat) (Option.some Jvm.ClassFile.FieldType.long)) ∈ GT := GT_of (List.mem_of_getElem? (i := 732) (by decide +kernel)) rfl
theorem tw_733 : (Jvm.Cond.methodLink "RangeScheduler" (216 : Nat) ({ cls := "RangeScheduler", name := "mixNodes", desc := "(J)J" } : Jvm.MethodName)) ∈ GT := GT_of (List.mem_of_getElem? (i := 733) (by decide +kernel)) rfl
theorem tw_735 : (Jvm.Cond.instanceMethod ({ cls := "RangeScheduler", name := "mixNodes", desc := "(J)J" } : Jvm.MethodName)) ∈ GT := GT_of (List.mem_of_getElem? (i := 735) (by decide +kernel)) rfl
theorem tw_736 : (Jvm.Cond.code ({ cls := "RangeScheduler", name := "mixNodes", desc := "(J)J" } : Jvm.MethodName) prog_1_method_33_code (7 : Nat) (Option.some Jvm.ClassFile.FieldType.long)) ∈ GT := GT_of (List.mem_of_getElem? (i := 736) (by decide +kernel)) rfl
theorem tw_737 : (Jvm.Cond.methodLink "RangeScheduler" (219 : Nat) ({ cls := "RangeScheduler", name := "mixRanges", desc := "(J)J" } : Jvm.MethodName)) ∈ GT := GT_of (List.mem_of_getElem? (i := 737) (by decide +kernel)) rfl
theorem tw_739 : (Jvm.Cond.instanceMethod ({ cls := "RangeScheduler", name := "mixRanges", desc := "(J)J" } : Jvm.MethodName)) ∈ GT := GT_of (List.mem_of_getElem? (i := 739) (by decide +kernel)) rfl
theorem tw_740 : (Jvm.Cond.code ({ cls := "RangeScheduler", name := "mixRanges", desc := "(J)J" } : Jvm.MethodName) prog_1_method_34_code (7 : Nat) (Option.some Jvm.ClassFile.FieldType.long)) ∈ GT := GT_of (List.mem_of_getElem? (i := 740) (by decide +kernel)) rfl
theorem tw_741 : (Jvm.Cond.methodLink "RangeScheduler" (226 : Nat) ({ cls := "RangeScheduler", name := "mixRow", desc := "(JI[I)J" } : Jvm.MethodName)) ∈ GT := GT_of (List.mem_of_getElem? (i := 741) (by decide +kernel)) rfl
theorem tw_742 : (Jvm.Cond.static ({ cls := "RangeScheduler", name := "mixRow", desc := "(JI[I)J" } : Jvm.MethodName)) ∈ GT := GT_of (List.mem_of_getElem? (i := 742) (by decide +kernel)) rfl
theorem tw_743 : (Jvm.Cond.code ({ cls := "RangeScheduler", name := "mixRow", desc := "(JI[I)J" } : Jvm.MethodName) prog_1_method_35_code (7 : Nat) (Option.some Jvm.ClassFile.FieldType.long)) ∈ GT := GT_of (List.mem_of_getElem? (i := 743) (by decide +kernel)) rfl
theorem tw_744 : (Jvm.Cond.classLink "RangeSchedulerLaw" (10 : Nat) "RangeSchedulerModel") ∈ GT := GT_of (List.mem_of_getElem? (i := 744) (by decide +kernel)) rfl
theorem tw_745 : (Jvm.Cond.instantiable "RangeSchedulerModel" (5 : Nat)) ∈ GT := GT_of (List.mem_of_getElem? (i := 745) (by decide +kernel)) rfl
theorem tw_746 : (Jvm.Cond.methodLink "RangeSchedulerLaw" (12 : Nat) ({ cls := "RangeSchedulerModel", name := "<init>", desc := "()V" } : Jvm.MethodName)) ∈ GT := GT_of (List.mem_of_getElem? (i := 746) (by decide +kernel)) rfl
theorem tw_747 : (Jvm.Cond.instanceMethod ({ cls := "RangeSchedulerModel", name := "<init>", desc := "()V" } : Jvm.MethodName)) ∈ GT := GT_of (List.mem_of_getElem? (i := 747) (by decide +kernel)) rfl
theorem tw_748 : (Jvm.Cond.code ({ cls := "RangeSchedulerModel", name := "<init>", desc := "()V" } : Jvm.MethodName) prog_11_method_1_code (1 : Nat) (Option.none : Option Jvm.ClassFile.FieldType)) ∈ GT := GT_of (List.mem_of_getElem? (i := 748) (by decide +kernel)) rfl
theorem tw_749 : (Jvm.Cond.methodLink "RangeSchedulerModel" (1 : Nat) ({ cls := "java/lang/Object", name := "<init>", desc := "()V" } : Jvm.MethodName)) ∈ GT := GT_of (List.mem_of_getElem? (i := 749) (by decide +kernel)) rfl
theorem tw_750 : (Jvm.Cond.methodLink "RangeSchedulerModel" (19 : Nat) ({ cls := "RangeSchedulerModel", name := "set", desc := "(III)V" } : Jvm.MethodName)) ∈ GT := GT_of (List.mem_of_getElem? (i := 750) (by decide +kernel)) rfl
theorem tw_752 : (Jvm.Cond.instanceMethod ({ cls := "RangeSchedulerModel", name := "set", desc := "(III)V" } : Jvm.MethodName)) ∈ GT := GT_of (List.mem_of_getElem? (i := 752) (by decide +kernel)) rfl
theorem tw_753 : (Jvm.Cond.code ({ cls := "RangeSchedulerModel", name := "set", desc := "(III)V" } : Jvm.MethodName) prog_11_method_10_code (4 : Nat) (Option.none : Option Jvm.ClassFile.FieldType)) ∈ GT := GT_of (List.mem_of_getElem? (i := 753) (by decide +kernel)) rfl
theorem tw_754 : (Jvm.Cond.fieldLink "RangeSchedulerModel" (7 : Nat) "RangeSchedulerModel" "s" "[I") ∈ GT := GT_of (List.mem_of_getElem? (i := 754) (by decide +kernel)) rfl
theorem tw_755 : (Jvm.Cond.fieldLink "RangeSchedulerModel" (13 : Nat) "RangeSchedulerModel" "past" "[I") ∈ GT := GT_of (List.mem_of_getElem? (i := 755) (by decide +kernel)) rfl
theorem tw_756 : (Jvm.Cond.fieldLink "RangeSchedulerModel" (23 : Nat) "RangeSchedulerModel" "pasts" "I") ∈ GT := GT_of (List.mem_of_getElem? (i := 756) (by decide +kernel)) rfl
theorem tw_757 : (Jvm.Cond.fieldLink "RangeSchedulerModel" (16 : Nat) "RangeSchedulerModel" "errors" "[I") ∈ GT := GT_of (List.mem_of_getElem? (i := 757) (by decide +kernel)) rfl
theorem tw_758 : (Jvm.Cond.fieldLink "RangeSchedulerModel" (177 : Nat) "RangeSchedulerModel" "hash" "J") ∈ GT := GT_of (List.mem_of_getElem? (i := 758) (by decide +kernel)) rfl
theorem tw_759 : (Jvm.Cond.laysFinal "RangeSchedulerModel" "RangeSchedulerModel" "s" "[I") ∈ GT := GT_of (List.mem_of_getElem? (i := 759) (by decide +kernel)) rfl
theorem tw_761 : (Jvm.Cond.laysFinal "RangeSchedulerModel" "RangeSchedulerModel" "past" "[I") ∈ GT := GT_of (List.mem_of_getElem? (i := 761) (by decide +kernel)) rfl
theorem tw_763 : (Jvm.Cond.lays "RangeSchedulerModel" "RangeSchedulerModel" "pasts" "I") ∈ GT := GT_of (List.mem_of_getElem? (i := 763) (by decide +kernel)) rfl
theorem tw_765 : (Jvm.Cond.laysFinal "RangeSchedulerModel" "RangeSchedulerModel" "errors" "[I") ∈ GT := GT_of (List.mem_of_getElem? (i := 765) (by decide +kernel)) rfl
theorem tw_767 : (Jvm.Cond.lays "RangeSchedulerModel" "RangeSchedulerModel" "hash" "J") ∈ GT := GT_of (List.mem_of_getElem? (i := 767) (by decide +kernel)) rfl
theorem tw_770 : (Jvm.Cond.methodLink "RangeSchedulerLaw" (127 : Nat) ({ cls := "RangeSchedulerModel", name := "undo", desc := "()I" } : Jvm.MethodName)) ∈ GT := GT_of (List.mem_of_getElem? (i := 770) (by decide +kernel)) rfl
theorem tw_771 : (Jvm.Cond.instanceMethod ({ cls := "RangeSchedulerModel", name := "undo", desc := "()I" } : Jvm.MethodName)) ∈ GT := GT_of (List.mem_of_getElem? (i := 771) (by decide +kernel)) rfl
theorem tw_772 : (Jvm.Cond.selects "RangeSchedulerModel" ({ cls := "RangeSchedulerModel", name := "undo", desc := "()I" } : Jvm.MethodName) ({ cls := "RangeSchedulerModel", name := "undo", desc := "()I" } : Jvm.MethodName)) ∈ GT := GT_of (List.mem_of_getElem? (i := 772) (by decide +kernel)) rfl
theorem tw_773 : (Jvm.Cond.code ({ cls := "RangeSchedulerModel", name := "undo", desc := "()I" } : Jvm.MethodName) prog_11_method_8_code (2 : Nat) (Option.some Jvm.ClassFile.FieldType.int)) ∈ GT := GT_of (List.mem_of_getElem? (i := 773) (by decide +kernel)) rfl
theorem tw_774 : (Jvm.Cond.methodLink "RangeSchedulerModel" (27 : Nat) ({ cls := "RangeSchedulerModel", name := "fail", desc := "(I)I" } : Jvm.MethodName)) ∈ GT := GT_of (List.mem_of_getElem? (i := 774) (by decide +kernel)) rfl
theorem tw_776 : (Jvm.Cond.instanceMethod ({ cls := "RangeSchedulerModel", name := "fail", desc := "(I)I" } : Jvm.MethodName)) ∈ GT := GT_of (List.mem_of_getElem? (i := 776) (by decide +kernel)) rfl
theorem tw_777 : (Jvm.Cond.code ({ cls := "RangeSchedulerModel", name := "fail", desc := "(I)I" } : Jvm.MethodName) prog_11_method_6_code (2 : Nat) (Option.some Jvm.ClassFile.FieldType.int)) ∈ GT := GT_of (List.mem_of_getElem? (i := 777) (by decide +kernel)) rfl
theorem tw_778 : (Jvm.Cond.methodLink "RangeSchedulerLaw" (63 : Nat) ({ cls := "RangeSchedulerModel", name := "tick", desc := "()I" } : Jvm.MethodName)) ∈ GT := GT_of (List.mem_of_getElem? (i := 778) (by decide +kernel)) rfl
theorem tw_779 : (Jvm.Cond.instanceMethod ({ cls := "RangeSchedulerModel", name := "tick", desc := "()I" } : Jvm.MethodName)) ∈ GT := GT_of (List.mem_of_getElem? (i := 779) (by decide +kernel)) rfl
theorem tw_780 : (Jvm.Cond.selects "RangeSchedulerModel" ({ cls := "RangeSchedulerModel", name := "tick", desc := "()I" } : Jvm.MethodName) ({ cls := "RangeSchedulerModel", name := "tick", desc := "()I" } : Jvm.MethodName)) ∈ GT := GT_of (List.mem_of_getElem? (i := 780) (by decide +kernel)) rfl
theorem tw_781 : (Jvm.Cond.code ({ cls := "RangeSchedulerModel", name := "tick", desc := "()I" } : Jvm.MethodName) prog_11_method_46_code (1 : Nat) (Option.some Jvm.ClassFile.FieldType.int)) ∈ GT := GT_of (List.mem_of_getElem? (i := 781) (by decide +kernel)) rfl
theorem tw_782 : (Jvm.Cond.methodLink "RangeSchedulerModel" (138 : Nat) ({ cls := "RangeSchedulerModel", name := "note", desc := "()V" } : Jvm.MethodName)) ∈ GT := GT_of (List.mem_of_getElem? (i := 782) (by decide +kernel)) rfl
theorem tw_784 : (Jvm.Cond.instanceMethod ({ cls := "RangeSchedulerModel", name := "note", desc := "()V" } : Jvm.MethodName)) ∈ GT := GT_of (List.mem_of_getElem? (i := 784) (by decide +kernel)) rfl
theorem tw_785 : (Jvm.Cond.code ({ cls := "RangeSchedulerModel", name := "note", desc := "()V" } : Jvm.MethodName) prog_11_method_7_code (2 : Nat) (Option.none : Option Jvm.ClassFile.FieldType)) ∈ GT := GT_of (List.mem_of_getElem? (i := 785) (by decide +kernel)) rfl
theorem tw_786 : (Jvm.Cond.methodLink "RangeSchedulerModel" (141 : Nat) ({ cls := "RangeSchedulerModel", name := "oneTick", desc := "()I" } : Jvm.MethodName)) ∈ GT := GT_of (List.mem_of_getElem? (i := 786) (by decide +kernel)) rfl
theorem tw_788 : (Jvm.Cond.instanceMethod ({ cls := "RangeSchedulerModel", name := "oneTick", desc := "()I" } : Jvm.MethodName)) ∈ GT := GT_of (List.mem_of_getElem? (i := 788) (by decide +kernel)) rfl
theorem tw_789 : (Jvm.Cond.code ({ cls := "RangeSchedulerModel", name := "oneTick", desc := "()I" } : Jvm.MethodName) prog_11_method_45_code (3 : Nat) (Option.some Jvm.ClassFile.FieldType.int)) ∈ GT := GT_of (List.mem_of_getElem? (i := 789) (by decide +kernel)) rfl
theorem tw_790 : (Jvm.Cond.methodLink "RangeSchedulerModel" (132 : Nat) ({ cls := "RangeSchedulerModel", name := "progress", desc := "(I)V" } : Jvm.MethodName)) ∈ GT := GT_of (List.mem_of_getElem? (i := 790) (by decide +kernel)) rfl
theorem tw_792 : (Jvm.Cond.instanceMethod ({ cls := "RangeSchedulerModel", name := "progress", desc := "(I)V" } : Jvm.MethodName)) ∈ GT := GT_of (List.mem_of_getElem? (i := 792) (by decide +kernel)) rfl
theorem tw_793 : (Jvm.Cond.code ({ cls := "RangeSchedulerModel", name := "progress", desc := "(I)V" } : Jvm.MethodName) prog_11_method_34_code (5 : Nat) (Option.none : Option Jvm.ClassFile.FieldType)) ∈ GT := GT_of (List.mem_of_getElem? (i := 793) (by decide +kernel)) rfl
theorem tw_794 : (Jvm.Cond.methodLink "RangeSchedulerModel" (39 : Nat) ({ cls := "RangeSchedulerModel", name := "of", desc := "(II)I" } : Jvm.MethodName)) ∈ GT := GT_of (List.mem_of_getElem? (i := 794) (by decide +kernel)) rfl
theorem tw_796 : (Jvm.Cond.instanceMethod ({ cls := "RangeSchedulerModel", name := "of", desc := "(II)I" } : Jvm.MethodName)) ∈ GT := GT_of (List.mem_of_getElem? (i := 796) (by decide +kernel)) rfl
theorem tw_797 : (Jvm.Cond.code ({ cls := "RangeSchedulerModel", name := "of", desc := "(II)I" } : Jvm.MethodName) prog_11_method_9_code (3 : Nat) (Option.some Jvm.ClassFile.FieldType.int)) ∈ GT := GT_of (List.mem_of_getElem? (i := 797) (by decide +kernel)) rfl
theorem tw_798 : (Jvm.Cond.methodLink "RangeSchedulerModel" (35 : Nat) ({ cls := "RangeSchedulerModel", name := "isUp", desc := "(I)Z" } : Jvm.MethodName)) ∈ GT := GT_of (List.mem_of_getElem? (i := 798) (by decide +kernel)) rfl
theorem tw_800 : (Jvm.Cond.instanceMethod ({ cls := "RangeSchedulerModel", name := "isUp", desc := "(I)Z" } : Jvm.MethodName)) ∈ GT := GT_of (List.mem_of_getElem? (i := 800) (by decide +kernel)) rfl
theorem tw_801 : (Jvm.Cond.code ({ cls := "RangeSchedulerModel", name := "isUp", desc := "(I)Z" } : Jvm.MethodName) prog_11_method_15_code (2 : Nat) (Option.some Jvm.ClassFile.FieldType.boolean)) ∈ GT := GT_of (List.mem_of_getElem? (i := 801) (by decide +kernel)) rfl
theorem tw_802 : (Jvm.Cond.methodLink "RangeSchedulerModel" (82 : Nat) ({ cls := "RangeSchedulerModel", name := "forgetLearner", desc := "(I)V" } : Jvm.MethodName)) ∈ GT := GT_of (List.mem_of_getElem? (i := 802) (by decide +kernel)) rfl
theorem tw_804 : (Jvm.Cond.instanceMethod ({ cls := "RangeSchedulerModel", name := "forgetLearner", desc := "(I)V" } : Jvm.MethodName)) ∈ GT := GT_of (List.mem_of_getElem? (i := 804) (by decide +kernel)) rfl
theorem tw_805 : (Jvm.Cond.code ({ cls := "RangeSchedulerModel", name := "forgetLearner", desc := "(I)V" } : Jvm.MethodName) prog_11_method_33_code (2 : Nat) (Option.none : Option Jvm.ClassFile.FieldType)) ∈ GT := GT_of (List.mem_of_getElem? (i := 805) (by decide +kernel)) rfl
theorem tw_806 : (Jvm.Cond.methodLink "RangeSchedulerModel" (86 : Nat) ({ cls := "RangeSchedulerModel", name := "elect", desc := "(I)V" } : Jvm.MethodName)) ∈ GT := GT_of (List.mem_of_getElem? (i := 806) (by decide +kernel)) rfl
theorem tw_808 : (Jvm.Cond.instanceMethod ({ cls := "RangeSchedulerModel", name := "elect", desc := "(I)V" } : Jvm.MethodName)) ∈ GT := GT_of (List.mem_of_getElem? (i := 808) (by decide +kernel)) rfl
theorem tw_809 : (Jvm.Cond.code ({ cls := "RangeSchedulerModel", name := "elect", desc := "(I)V" } : Jvm.MethodName) prog_11_method_20_code (6 : Nat) (Option.none : Option Jvm.ClassFile.FieldType)) ∈ GT := GT_of (List.mem_of_getElem? (i := 809) (by decide +kernel)) rfl
theorem tw_810 : (Jvm.Cond.methodLink "RangeSchedulerModel" (54 : Nat) ({ cls := "RangeSchedulerModel", name := "available", desc := "(I)Z" } : Jvm.MethodName)) ∈ GT := GT_of (List.mem_of_getElem? (i := 810) (by decide +kernel)) rfl
theorem tw_812 : (Jvm.Cond.instanceMethod ({ cls := "RangeSchedulerModel", name := "available", desc := "(I)Z" } : Jvm.MethodName)) ∈ GT := GT_of (List.mem_of_getElem? (i := 812) (by decide +kernel)) rfl
theorem tw_813 : (Jvm.Cond.code ({ cls := "RangeSchedulerModel", name := "available", desc := "(I)Z" } : Jvm.MethodName) prog_11_method_17_code (2 : Nat) (Option.some Jvm.ClassFile.FieldType.boolean)) ∈ GT := GT_of (List.mem_of_getElem? (i := 813) (by decide +kernel)) rfl
theorem tw_814 : (Jvm.Cond.methodLink "RangeSchedulerModel" (43 : Nat) ({ cls := "RangeSchedulerModel", name := "ups", desc := "()I" } : Jvm.MethodName)) ∈ GT := GT_of (List.mem_of_getElem? (i := 814) (by decide +kernel)) rfl
theorem tw_816 : (Jvm.Cond.instanceMethod ({ cls := "RangeSchedulerModel", name := "ups", desc := "()I" } : Jvm.MethodName)) ∈ GT := GT_of (List.mem_of_getElem? (i := 816) (by decide +kernel)) rfl
theorem tw_817 : (Jvm.Cond.code ({ cls := "RangeSchedulerModel", name := "ups", desc := "()I" } : Jvm.MethodName) prog_11_method_16_code (3 : Nat) (Option.some Jvm.ClassFile.FieldType.int)) ∈ GT := GT_of (List.mem_of_getElem? (i := 817) (by decide +kernel)) rfl
theorem tw_818 : (Jvm.Cond.methodLink "RangeSchedulerModel" (47 : Nat) ({ cls := "RangeSchedulerModel", name := "count", desc := "(I)I" } : Jvm.MethodName)) ∈ GT := GT_of (List.mem_of_getElem? (i := 818) (by decide +kernel)) rfl
theorem tw_819 : (Jvm.Cond.static ({ cls := "RangeSchedulerModel", name := "count", desc := "(I)I" } : Jvm.MethodName)) ∈ GT := GT_of (List.mem_of_getElem? (i := 819) (by decide +kernel)) rfl
theorem tw_820 : (Jvm.Cond.code ({ cls := "RangeSchedulerModel", name := "count", desc := "(I)I" } : Jvm.MethodName) prog_11_method_5_code (3 : Nat) (Option.some Jvm.ClassFile.FieldType.int)) ∈ GT := GT_of (List.mem_of_getElem? (i := 820) (by decide +kernel)) rfl
theorem tw_821 : (Jvm.Cond.methodLink "RangeSchedulerModel" (50 : Nat) ({ cls := "RangeSchedulerModel", name := "has", desc := "(II)Z" } : Jvm.MethodName)) ∈ GT := GT_of (List.mem_of_getElem? (i := 821) (by decide +kernel)) rfl
theorem tw_822 : (Jvm.Cond.static ({ cls := "RangeSchedulerModel", name := "has", desc := "(II)Z" } : Jvm.MethodName)) ∈ GT := GT_of (List.mem_of_getElem? (i := 822) (by decide +kernel)) rfl
theorem tw_823 : (Jvm.Cond.code ({ cls := "RangeSchedulerModel", name := "has", desc := "(II)Z" } : Jvm.MethodName) prog_11_method_4_code (2 : Nat) (Option.some Jvm.ClassFile.FieldType.boolean)) ∈ GT := GT_of (List.mem_of_getElem? (i := 823) (by decide +kernel)) rfl
theorem tw_824 : (Jvm.Cond.methodLink "RangeSchedulerModel" (57 : Nat) ({ cls := "RangeSchedulerModel", name := "leads", desc := "(II)I" } : Jvm.MethodName)) ∈ GT := GT_of (List.mem_of_getElem? (i := 824) (by decide +kernel)) rfl
theorem tw_826 : (Jvm.Cond.instanceMethod ({ cls := "RangeSchedulerModel", name := "leads", desc := "(II)I" } : Jvm.MethodName)) ∈ GT := GT_of (List.mem_of_getElem? (i := 826) (by decide +kernel)) rfl
theorem tw_827 : (Jvm.Cond.code ({ cls := "RangeSchedulerModel", name := "leads", desc := "(II)I" } : Jvm.MethodName) prog_11_method_19_code (5 : Nat) (Option.some Jvm.ClassFile.FieldType.int)) ∈ GT := GT_of (List.mem_of_getElem? (i := 827) (by decide +kernel)) rfl
theorem tw_828 : (Jvm.Cond.methodLink "RangeSchedulerModel" (135 : Nat) ({ cls := "RangeSchedulerModel", name := "does", desc := "(II)Z" } : Jvm.MethodName)) ∈ GT := GT_of (List.mem_of_getElem? (i := 828) (by decide +kernel)) rfl
theorem tw_830 : (Jvm.Cond.instanceMethod ({ cls := "RangeSchedulerModel", name := "does", desc := "(II)Z" } : Jvm.MethodName)) ∈ GT := GT_of (List.mem_of_getElem? (i := 830) (by decide +kernel)) rfl
theorem tw_831 : (Jvm.Cond.code ({ cls := "RangeSchedulerModel", name := "does", desc := "(II)Z" } : Jvm.MethodName) prog_11_method_44_code (3 : Nat) (Option.some Jvm.ClassFile.FieldType.boolean)) ∈ GT := GT_of (List.mem_of_getElem? (i := 831) (by decide +kernel)) rfl
theorem tw_832 : (Jvm.Cond.methodLink "RangeSchedulerModel" (111 : Nat) ({ cls := "RangeSchedulerModel", name := "create", desc := "(I)Z" } : Jvm.MethodName)) ∈ GT := GT_of (List.mem_of_getElem? (i := 832) (by decide +kernel)) rfl
theorem tw_834 : (Jvm.Cond.instanceMethod ({ cls := "RangeSchedulerModel", name := "create", desc := "(I)Z" } : Jvm.MethodName)) ∈ GT := GT_of (List.mem_of_getElem? (i := 834) (by decide +kernel)) rfl
theorem tw_835 : (Jvm.Cond.code ({ cls := "RangeSchedulerModel", name := "create", desc := "(I)Z" } : Jvm.MethodName) prog_11_method_35_code (3 : Nat) (Option.some Jvm.ClassFile.FieldType.boolean)) ∈ GT := GT_of (List.mem_of_getElem? (i := 835) (by decide +kernel)) rfl
theorem tw_836 : (Jvm.Cond.methodLink "RangeSchedulerModel" (89 : Nat) ({ cls := "RangeSchedulerModel", name := "choose", desc := "(II)I" } : Jvm.MethodName)) ∈ GT := GT_of (List.mem_of_getElem? (i := 836) (by decide +kernel)) rfl
theorem tw_838 : (Jvm.Cond.instanceMethod ({ cls := "RangeSchedulerModel", name := "choose", desc := "(II)I" } : Jvm.MethodName)) ∈ GT := GT_of (List.mem_of_getElem? (i := 838) (by decide +kernel)) rfl
theorem tw_839 : (Jvm.Cond.code ({ cls := "RangeSchedulerModel", name := "choose", desc := "(II)I" } : Jvm.MethodName) prog_11_method_22_code (9 : Nat) (Option.some Jvm.ClassFile.FieldType.int)) ∈ GT := GT_of (List.mem_of_getElem? (i := 839) (by decide +kernel)) rfl
theorem tw_840 : (Jvm.Cond.methodLink "RangeSchedulerModel" (63 : Nat) ({ cls := "RangeSchedulerModel", name := "replicasOf", desc := "(I)I" } : Jvm.MethodName)) ∈ GT := GT_of (List.mem_of_getElem? (i := 840) (by decide +kernel)) rfl
theorem tw_842 : (Jvm.Cond.instanceMethod ({ cls := "RangeSchedulerModel", name := "replicasOf", desc := "(I)I" } : Jvm.MethodName)) ∈ GT := GT_of (List.mem_of_getElem? (i := 842) (by decide +kernel)) rfl
theorem tw_843 : (Jvm.Cond.code ({ cls := "RangeSchedulerModel", name := "replicasOf", desc := "(I)I" } : Jvm.MethodName) prog_11_method_18_code (4 : Nat) (Option.some Jvm.ClassFile.FieldType.int)) ∈ GT := GT_of (List.mem_of_getElem? (i := 843) (by decide +kernel)) rfl
theorem tw_844 : (Jvm.Cond.methodLink "RangeSchedulerModel" (66 : Nat) ({ cls := "RangeSchedulerModel", name := "isFresh", desc := "(III)Z" } : Jvm.MethodName)) ∈ GT := GT_of (List.mem_of_getElem? (i := 844) (by decide +kernel)) rfl
theorem tw_846 : (Jvm.Cond.instanceMethod ({ cls := "RangeSchedulerModel", name := "isFresh", desc := "(III)Z" } : Jvm.MethodName)) ∈ GT := GT_of (List.mem_of_getElem? (i := 846) (by decide +kernel)) rfl
theorem tw_847 : (Jvm.Cond.code ({ cls := "RangeSchedulerModel", name := "isFresh", desc := "(III)Z" } : Jvm.MethodName) prog_11_method_21_code (6 : Nat) (Option.some Jvm.ClassFile.FieldType.boolean)) ∈ GT := GT_of (List.mem_of_getElem? (i := 847) (by decide +kernel)) rfl
theorem tw_848 : (Jvm.Cond.methodLink "RangeSchedulerModel" (60 : Nat) ({ cls := "RangeSchedulerModel", name := "zone", desc := "(I)I" } : Jvm.MethodName)) ∈ GT := GT_of (List.mem_of_getElem? (i := 848) (by decide +kernel)) rfl
theorem tw_850 : (Jvm.Cond.instanceMethod ({ cls := "RangeSchedulerModel", name := "zone", desc := "(I)I" } : Jvm.MethodName)) ∈ GT := GT_of (List.mem_of_getElem? (i := 850) (by decide +kernel)) rfl
theorem tw_851 : (Jvm.Cond.code ({ cls := "RangeSchedulerModel", name := "zone", desc := "(I)I" } : Jvm.MethodName) prog_11_method_14_code (2 : Nat) (Option.some Jvm.ClassFile.FieldType.int)) ∈ GT := GT_of (List.mem_of_getElem? (i := 851) (by decide +kernel)) rfl
theorem tw_852 : (Jvm.Cond.methodLink "RangeSchedulerModel" (114 : Nat) ({ cls := "RangeSchedulerModel", name := "repair", desc := "(I)Z" } : Jvm.MethodName)) ∈ GT := GT_of (List.mem_of_getElem? (i := 852) (by decide +kernel)) rfl
theorem tw_854 : (Jvm.Cond.instanceMethod ({ cls := "RangeSchedulerModel", name := "repair", desc := "(I)Z" } : Jvm.MethodName)) ∈ GT := GT_of (List.mem_of_getElem? (i := 854) (by decide +kernel)) rfl
theorem tw_855 : (Jvm.Cond.code ({ cls := "RangeSchedulerModel", name := "repair", desc := "(I)Z" } : Jvm.MethodName) prog_11_method_37_code (5 : Nat) (Option.some Jvm.ClassFile.FieldType.boolean)) ∈ GT := GT_of (List.mem_of_getElem? (i := 855) (by decide +kernel)) rfl
theorem tw_856 : (Jvm.Cond.methodLink "RangeSchedulerModel" (92 : Nat) ({ cls := "RangeSchedulerModel", name := "learn", desc := "(III)V" } : Jvm.MethodName)) ∈ GT := GT_of (List.mem_of_getElem? (i := 856) (by decide +kernel)) rfl
theorem tw_858 : (Jvm.Cond.instanceMethod ({ cls := "RangeSchedulerModel", name := "learn", desc := "(III)V" } : Jvm.MethodName)) ∈ GT := GT_of (List.mem_of_getElem? (i := 858) (by decide +kernel)) rfl
theorem tw_859 : (Jvm.Cond.code ({ cls := "RangeSchedulerModel", name := "learn", desc := "(III)V" } : Jvm.MethodName) prog_11_method_32_code (4 : Nat) (Option.none : Option Jvm.ClassFile.FieldType)) ∈ GT := GT_of (List.mem_of_getElem? (i := 859) (by decide +kernel)) rfl
theorem tw_860 : (Jvm.Cond.methodLink "RangeSchedulerModel" (79 : Nat) ({ cls := "RangeSchedulerModel", name := "all", desc := "(II)I" } : Jvm.MethodName)) ∈ GT := GT_of (List.mem_of_getElem? (i := 860) (by decide +kernel)) rfl
theorem tw_862 : (Jvm.Cond.instanceMethod ({ cls := "RangeSchedulerModel", name := "all", desc := "(II)I" } : Jvm.MethodName)) ∈ GT := GT_of (List.mem_of_getElem? (i := 862) (by decide +kernel)) rfl
theorem tw_863 : (Jvm.Cond.code ({ cls := "RangeSchedulerModel", name := "all", desc := "(II)I" } : Jvm.MethodName) prog_11_method_27_code (3 : Nat) (Option.some Jvm.ClassFile.FieldType.int)) ∈ GT := GT_of (List.mem_of_getElem? (i := 863) (by decide +kernel)) rfl
theorem tw_864 : (Jvm.Cond.methodLink "RangeSchedulerModel" (75 : Nat) ({ cls := "RangeSchedulerModel", name := "below", desc := "(III)I" } : Jvm.MethodName)) ∈ GT := GT_of (List.mem_of_getElem? (i := 864) (by decide +kernel)) rfl
theorem tw_866 : (Jvm.Cond.instanceMethod ({ cls := "RangeSchedulerModel", name := "below", desc := "(III)I" } : Jvm.MethodName)) ∈ GT := GT_of (List.mem_of_getElem? (i := 866) (by decide +kernel)) rfl
theorem tw_867 : (Jvm.Cond.code ({ cls := "RangeSchedulerModel", name := "below", desc := "(III)I" } : Jvm.MethodName) prog_11_method_26_code (8 : Nat) (Option.some Jvm.ClassFile.FieldType.int)) ∈ GT := GT_of (List.mem_of_getElem? (i := 867) (by decide +kernel)) rfl
theorem tw_868 : (Jvm.Cond.methodLink "RangeSchedulerModel" (72 : Nat) ({ cls := "RangeSchedulerModel", name := "isIn", desc := "(II)Z" } : Jvm.MethodName)) ∈ GT := GT_of (List.mem_of_getElem? (i := 868) (by decide +kernel)) rfl
theorem tw_870 : (Jvm.Cond.instanceMethod ({ cls := "RangeSchedulerModel", name := "isIn", desc := "(II)Z" } : Jvm.MethodName)) ∈ GT := GT_of (List.mem_of_getElem? (i := 870) (by decide +kernel)) rfl
theorem tw_871 : (Jvm.Cond.code ({ cls := "RangeSchedulerModel", name := "isIn", desc := "(II)Z" } : Jvm.MethodName) prog_11_method_24_code (3 : Nat) (Option.some Jvm.ClassFile.FieldType.boolean)) ∈ GT := GT_of (List.mem_of_getElem? (i := 871) (by decide +kernel)) rfl
theorem tw_872 : (Jvm.Cond.methodLink "RangeSchedulerModel" (69 : Nat) ({ cls := "RangeSchedulerModel", name := "end", desc := "(I)I" } : Jvm.MethodName)) ∈ GT := GT_of (List.mem_of_getElem? (i := 872) (by decide +kernel)) rfl
theorem tw_874 : (Jvm.Cond.instanceMethod ({ cls := "RangeSchedulerModel", name := "end", desc := "(I)I" } : Jvm.MethodName)) ∈ GT := GT_of (List.mem_of_getElem? (i := 874) (by decide +kernel)) rfl
theorem tw_875 : (Jvm.Cond.code ({ cls := "RangeSchedulerModel", name := "end", desc := "(I)I" } : Jvm.MethodName) prog_11_method_23_code (2 : Nat) (Option.some Jvm.ClassFile.FieldType.int)) ∈ GT := GT_of (List.mem_of_getElem? (i := 875) (by decide +kernel)) rfl
theorem tw_876 : (Jvm.Cond.methodLink "RangeSchedulerModel" (31 : Nat) ({ cls := "RangeSchedulerModel", name := "in", desc := "(III)Z" } : Jvm.MethodName)) ∈ GT := GT_of (List.mem_of_getElem? (i := 876) (by decide +kernel)) rfl
theorem tw_877 : (Jvm.Cond.static ({ cls := "RangeSchedulerModel", name := "in", desc := "(III)Z" } : Jvm.MethodName)) ∈ GT := GT_of (List.mem_of_getElem? (i := 877) (by decide +kernel)) rfl
theorem tw_878 : (Jvm.Cond.code ({ cls := "RangeSchedulerModel", name := "in", desc := "(III)Z" } : Jvm.MethodName) prog_11_method_3_code (3 : Nat) (Option.some Jvm.ClassFile.FieldType.boolean)) ∈ GT := GT_of (List.mem_of_getElem? (i := 878) (by decide +kernel)) rfl
theorem tw_879 : (Jvm.Cond.methodLink "RangeSchedulerModel" (117 : Nat) ({ cls := "RangeSchedulerModel", name := "spread", desc := "(I)Z" } : Jvm.MethodName)) ∈ GT := GT_of (List.mem_of_getElem? (i := 879) (by decide +kernel)) rfl
theorem tw_881 : (Jvm.Cond.instanceMethod ({ cls := "RangeSchedulerModel", name := "spread", desc := "(I)Z" } : Jvm.MethodName)) ∈ GT := GT_of (List.mem_of_getElem? (i := 881) (by decide +kernel)) rfl
theorem tw_882 : (Jvm.Cond.code ({ cls := "RangeSchedulerModel", name := "spread", desc := "(I)Z" } : Jvm.MethodName) prog_11_method_38_code (4 : Nat) (Option.some Jvm.ClassFile.FieldType.boolean)) ∈ GT := GT_of (List.mem_of_getElem? (i := 882) (by decide +kernel)) rfl
theorem tw_883 : (Jvm.Cond.methodLink "RangeSchedulerModel" (95 : Nat) ({ cls := "RangeSchedulerModel", name := "isWhole", desc := "(I)Z" } : Jvm.MethodName)) ∈ GT := GT_of (List.mem_of_getElem? (i := 883) (by decide +kernel)) rfl
theorem tw_885 : (Jvm.Cond.instanceMethod ({ cls := "RangeSchedulerModel", name := "isWhole", desc := "(I)Z" } : Jvm.MethodName)) ∈ GT := GT_of (List.mem_of_getElem? (i := 885) (by decide +kernel)) rfl
theorem tw_886 : (Jvm.Cond.code ({ cls := "RangeSchedulerModel", name := "isWhole", desc := "(I)Z" } : Jvm.MethodName) prog_11_method_36_code (2 : Nat) (Option.some Jvm.ClassFile.FieldType.boolean)) ∈ GT := GT_of (List.mem_of_getElem? (i := 886) (by decide +kernel)) rfl
theorem tw_887 : (Jvm.Cond.methodLink "RangeSchedulerModel" (120 : Nat) ({ cls := "RangeSchedulerModel", name := "splitBy", desc := "(II)Z" } : Jvm.MethodName)) ∈ GT := GT_of (List.mem_of_getElem? (i := 887) (by decide +kernel)) rfl
theorem tw_889 : (Jvm.Cond.instanceMethod ({ cls := "RangeSchedulerModel", name := "splitBy", desc := "(II)Z" } : Jvm.MethodName)) ∈ GT := GT_of (List.mem_of_getElem? (i := 889) (by decide +kernel)) rfl
theorem tw_890 : (Jvm.Cond.code ({ cls := "RangeSchedulerModel", name := "splitBy", desc := "(II)Z" } : Jvm.MethodName) prog_11_method_39_code (5 : Nat) (Option.some Jvm.ClassFile.FieldType.boolean)) ∈ GT := GT_of (List.mem_of_getElem? (i := 890) (by decide +kernel)) rfl
theorem tw_891 : (Jvm.Cond.methodLink "RangeSchedulerModel" (98 : Nat) ({ cls := "RangeSchedulerModel", name := "splitKeyOf", desc := "(II)I" } : Jvm.MethodName)) ∈ GT := GT_of (List.mem_of_getElem? (i := 891) (by decide +kernel)) rfl
theorem tw_893 : (Jvm.Cond.instanceMethod ({ cls := "RangeSchedulerModel", name := "splitKeyOf", desc := "(II)I" } : Jvm.MethodName)) ∈ GT := GT_of (List.mem_of_getElem? (i := 893) (by decide +kernel)) rfl
theorem tw_894 : (Jvm.Cond.code ({ cls := "RangeSchedulerModel", name := "splitKeyOf", desc := "(II)I" } : Jvm.MethodName) prog_11_method_28_code (11 : Nat) (Option.some Jvm.ClassFile.FieldType.int)) ∈ GT := GT_of (List.mem_of_getElem? (i := 894) (by decide +kernel)) rfl
theorem tw_895 : (Jvm.Cond.methodLink "RangeSchedulerModel" (101 : Nat) ({ cls := "RangeSchedulerModel", name := "split", desc := "(II)V" } : Jvm.MethodName)) ∈ GT := GT_of (List.mem_of_getElem? (i := 895) (by decide +kernel)) rfl
theorem tw_897 : (Jvm.Cond.instanceMethod ({ cls := "RangeSchedulerModel", name := "split", desc := "(II)V" } : Jvm.MethodName)) ∈ GT := GT_of (List.mem_of_getElem? (i := 897) (by decide +kernel)) rfl
theorem tw_898 : (Jvm.Cond.code ({ cls := "RangeSchedulerModel", name := "split", desc := "(II)V" } : Jvm.MethodName) prog_11_method_30_code (4 : Nat) (Option.none : Option Jvm.ClassFile.FieldType)) ∈ GT := GT_of (List.mem_of_getElem? (i := 898) (by decide +kernel)) rfl
theorem tw_899 : (Jvm.Cond.methodLink "RangeSchedulerModel" (123 : Nat) ({ cls := "RangeSchedulerModel", name := "mergeNext", desc := "(I)Z" } : Jvm.MethodName)) ∈ GT := GT_of (List.mem_of_getElem? (i := 899) (by decide +kernel)) rfl
theorem tw_901 : (Jvm.Cond.instanceMethod ({ cls := "RangeSchedulerModel", name := "mergeNext", desc := "(I)Z" } : Jvm.MethodName)) ∈ GT := GT_of (List.mem_of_getElem? (i := 901) (by decide +kernel)) rfl
theorem tw_902 : (Jvm.Cond.code ({ cls := "RangeSchedulerModel", name := "mergeNext", desc := "(I)Z" } : Jvm.MethodName) prog_11_method_41_code (2 : Nat) (Option.some Jvm.ClassFile.FieldType.boolean)) ∈ GT := GT_of (List.mem_of_getElem? (i := 902) (by decide +kernel)) rfl
theorem tw_903 : (Jvm.Cond.methodLink "RangeSchedulerModel" (105 : Nat) ({ cls := "RangeSchedulerModel", name := "isCold", desc := "(I)Z" } : Jvm.MethodName)) ∈ GT := GT_of (List.mem_of_getElem? (i := 903) (by decide +kernel)) rfl
theorem tw_905 : (Jvm.Cond.instanceMethod ({ cls := "RangeSchedulerModel", name := "isCold", desc := "(I)Z" } : Jvm.MethodName)) ∈ GT := GT_of (List.mem_of_getElem? (i := 905) (by decide +kernel)) rfl
theorem tw_906 : (Jvm.Cond.code ({ cls := "RangeSchedulerModel", name := "isCold", desc := "(I)Z" } : Jvm.MethodName) prog_11_method_40_code (2 : Nat) (Option.some Jvm.ClassFile.FieldType.boolean)) ∈ GT := GT_of (List.mem_of_getElem? (i := 906) (by decide +kernel)) rfl
theorem tw_907 : (Jvm.Cond.methodLink "RangeSchedulerModel" (108 : Nat) ({ cls := "RangeSchedulerModel", name := "mergeNextInto", desc := "(I)V" } : Jvm.MethodName)) ∈ GT := GT_of (List.mem_of_getElem? (i := 907) (by decide +kernel)) rfl
theorem tw_909 : (Jvm.Cond.instanceMethod ({ cls := "RangeSchedulerModel", name := "mergeNextInto", desc := "(I)V" } : Jvm.MethodName)) ∈ GT := GT_of (List.mem_of_getElem? (i := 909) (by decide +kernel)) rfl
theorem tw_910 : (Jvm.Cond.code ({ cls := "RangeSchedulerModel", name := "mergeNextInto", desc := "(I)V" } : Jvm.MethodName) prog_11_method_31_code (3 : Nat) (Option.none : Option Jvm.ClassFile.FieldType)) ∈ GT := GT_of (List.mem_of_getElem? (i := 910) (by decide +kernel)) rfl
theorem tw_911 : (Jvm.Cond.methodLink "RangeSchedulerModel" (126 : Nat) ({ cls := "RangeSchedulerModel", name := "shiftLeader", desc := "(I)Z" } : Jvm.MethodName)) ∈ GT := GT_of (List.mem_of_getElem? (i := 911) (by decide +kernel)) rfl
theorem tw_913 : (Jvm.Cond.instanceMethod ({ cls := "RangeSchedulerModel", name := "shiftLeader", desc := "(I)Z" } : Jvm.MethodName)) ∈ GT := GT_of (List.mem_of_getElem? (i := 913) (by decide +kernel)) rfl
theorem tw_914 : (Jvm.Cond.code ({ cls := "RangeSchedulerModel", name := "shiftLeader", desc := "(I)Z" } : Jvm.MethodName) prog_11_method_42_code (6 : Nat) (Option.some Jvm.ClassFile.FieldType.boolean)) ∈ GT := GT_of (List.mem_of_getElem? (i := 914) (by decide +kernel)) rfl
theorem tw_915 : (Jvm.Cond.methodLink "RangeSchedulerModel" (129 : Nat) ({ cls := "RangeSchedulerModel", name := "shiftReplica", desc := "(I)Z" } : Jvm.MethodName)) ∈ GT := GT_of (List.mem_of_getElem? (i := 915) (by decide +kernel)) rfl
theorem tw_917 : (Jvm.Cond.instanceMethod ({ cls := "RangeSchedulerModel", name := "shiftReplica", desc := "(I)Z" } : Jvm.MethodName)) ∈ GT := GT_of (List.mem_of_getElem? (i := 917) (by decide +kernel)) rfl
theorem tw_918 : (Jvm.Cond.code ({ cls := "RangeSchedulerModel", name := "shiftReplica", desc := "(I)Z" } : Jvm.MethodName) prog_11_method_43_code (5 : Nat) (Option.some Jvm.ClassFile.FieldType.boolean)) ∈ GT := GT_of (List.mem_of_getElem? (i := 918) (by decide +kernel)) rfl
theorem tw_919 : (Jvm.Cond.methodLink "RangeSchedulerLaw" (67 : Nat) ({ cls := "RangeSchedulerModel", name := "settle", desc := "(I)I" } : Jvm.MethodName)) ∈ GT := GT_of (List.mem_of_getElem? (i := 919) (by decide +kernel)) rfl
theorem tw_920 : (Jvm.Cond.instanceMethod ({ cls := "RangeSchedulerModel", name := "settle", desc := "(I)I" } : Jvm.MethodName)) ∈ GT := GT_of (List.mem_of_getElem? (i := 920) (by decide +kernel)) rfl
theorem tw_921 : (Jvm.Cond.selects "RangeSchedulerModel" ({ cls := "RangeSchedulerModel", name := "settle", desc := "(I)I" } : Jvm.MethodName) ({ cls := "RangeSchedulerModel", name := "settle", desc := "(I)I" } : Jvm.MethodName)) ∈ GT := GT_of (List.mem_of_getElem? (i := 921) (by decide +kernel)) rfl
theorem tw_922 : (Jvm.Cond.code ({ cls := "RangeSchedulerModel", name := "settle", desc := "(I)I" } : Jvm.MethodName) prog_11_method_48_code (4 : Nat) (Option.some Jvm.ClassFile.FieldType.int)) ∈ GT := GT_of (List.mem_of_getElem? (i := 922) (by decide +kernel)) rfl
theorem tw_923 : (Jvm.Cond.methodLink "RangeSchedulerModel" (144 : Nat) ({ cls := "RangeSchedulerModel", name := "hasLearner", desc := "()Z" } : Jvm.MethodName)) ∈ GT := GT_of (List.mem_of_getElem? (i := 923) (by decide +kernel)) rfl
theorem tw_925 : (Jvm.Cond.instanceMethod ({ cls := "RangeSchedulerModel", name := "hasLearner", desc := "()Z" } : Jvm.MethodName)) ∈ GT := GT_of (List.mem_of_getElem? (i := 925) (by decide +kernel)) rfl
theorem tw_926 : (Jvm.Cond.code ({ cls := "RangeSchedulerModel", name := "hasLearner", desc := "()Z" } : Jvm.MethodName) prog_11_method_47_code (3 : Nat) (Option.some Jvm.ClassFile.FieldType.boolean)) ∈ GT := GT_of (List.mem_of_getElem? (i := 926) (by decide +kernel)) rfl
theorem tw_927 : (Jvm.Cond.methodLink "RangeSchedulerLaw" (71 : Nat) ({ cls := "RangeSchedulerModel", name := "performed", desc := "(I)I" } : Jvm.MethodName)) ∈ GT := GT_of (List.mem_of_getElem? (i := 927) (by decide +kernel)) rfl
theorem tw_928 : (Jvm.Cond.instanceMethod ({ cls := "RangeSchedulerModel", name := "performed", desc := "(I)I" } : Jvm.MethodName)) ∈ GT := GT_of (List.mem_of_getElem? (i := 928) (by decide +kernel)) rfl
theorem tw_929 : (Jvm.Cond.selects "RangeSchedulerModel" ({ cls := "RangeSchedulerModel", name := "performed", desc := "(I)I" } : Jvm.MethodName) ({ cls := "RangeSchedulerModel", name := "performed", desc := "(I)I" } : Jvm.MethodName)) ∈ GT := GT_of (List.mem_of_getElem? (i := 929) (by decide +kernel)) rfl
theorem tw_930 : (Jvm.Cond.code ({ cls := "RangeSchedulerModel", name := "performed", desc := "(I)I" } : Jvm.MethodName) prog_11_method_49_code (2 : Nat) (Option.some Jvm.ClassFile.FieldType.int)) ∈ GT := GT_of (List.mem_of_getElem? (i := 930) (by decide +kernel)) rfl
theorem tw_931 : (Jvm.Cond.methodLink "RangeSchedulerLaw" (75 : Nat) ({ cls := "RangeSchedulerModel", name := "time", desc := "()I" } : Jvm.MethodName)) ∈ GT := GT_of (List.mem_of_getElem? (i := 931) (by decide +kernel)) rfl
theorem tw_932 : (Jvm.Cond.instanceMethod ({ cls := "RangeSchedulerModel", name := "time", desc := "()I" } : Jvm.MethodName)) ∈ GT := GT_of (List.mem_of_getElem? (i := 932) (by decide +kernel)) rfl
theorem tw_933 : (Jvm.Cond.selects "RangeSchedulerModel" ({ cls := "RangeSchedulerModel", name := "time", desc := "()I" } : Jvm.MethodName) ({ cls := "RangeSchedulerModel", name := "time", desc := "()I" } : Jvm.MethodName)) ∈ GT := GT_of (List.mem_of_getElem? (i := 933) (by decide +kernel)) rfl
theorem tw_934 : (Jvm.Cond.code ({ cls := "RangeSchedulerModel", name := "time", desc := "()I" } : Jvm.MethodName) prog_11_method_50_code (1 : Nat) (Option.some Jvm.ClassFile.FieldType.int)) ∈ GT := GT_of (List.mem_of_getElem? (i := 934) (by decide +kernel)) rfl
theorem tw_935 : (Jvm.Cond.methodLink "RangeSchedulerLaw" (17 : Nat) ({ cls := "RangeSchedulerModel", name := "addNode", desc := "(II)I" } : Jvm.MethodName)) ∈ GT := GT_of (List.mem_of_getElem? (i := 935) (by decide +kernel)) rfl
theorem tw_936 : (Jvm.Cond.instanceMethod ({ cls := "RangeSchedulerModel", name := "addNode", desc := "(II)I" } : Jvm.MethodName)) ∈ GT := GT_of (List.mem_of_getElem? (i := 936) (by decide +kernel)) rfl
theorem tw_937 : (Jvm.Cond.selects "RangeSchedulerModel" ({ cls := "RangeSchedulerModel", name := "addNode", desc := "(II)I" } : Jvm.MethodName) ({ cls := "RangeSchedulerModel", name := "addNode", desc := "(II)I" } : Jvm.MethodName)) ∈ GT := GT_of (List.mem_of_getElem? (i := 937) (by decide +kernel)) rfl
theorem tw_938 : (Jvm.Cond.code ({ cls := "RangeSchedulerModel", name := "addNode", desc := "(II)I" } : Jvm.MethodName) prog_11_method_51_code (4 : Nat) (Option.some Jvm.ClassFile.FieldType.int)) ∈ GT := GT_of (List.mem_of_getElem? (i := 938) (by decide +kernel)) rfl
theorem tw_939 : (Jvm.Cond.methodLink "RangeSchedulerLaw" (21 : Nat) ({ cls := "RangeSchedulerModel", name := "setNode", desc := "(II)I" } : Jvm.MethodName)) ∈ GT := GT_of (List.mem_of_getElem? (i := 939) (by decide +kernel)) rfl
theorem tw_940 : (Jvm.Cond.instanceMethod ({ cls := "RangeSchedulerModel", name := "setNode", desc := "(II)I" } : Jvm.MethodName)) ∈ GT := GT_of (List.mem_of_getElem? (i := 940) (by decide +kernel)) rfl
theorem tw_941 : (Jvm.Cond.selects "RangeSchedulerModel" ({ cls := "RangeSchedulerModel", name := "setNode", desc := "(II)I" } : Jvm.MethodName) ({ cls := "RangeSchedulerModel", name := "setNode", desc := "(II)I" } : Jvm.MethodName)) ∈ GT := GT_of (List.mem_of_getElem? (i := 941) (by decide +kernel)) rfl
theorem tw_942 : (Jvm.Cond.code ({ cls := "RangeSchedulerModel", name := "setNode", desc := "(II)I" } : Jvm.MethodName) prog_11_method_54_code (5 : Nat) (Option.some Jvm.ClassFile.FieldType.int)) ∈ GT := GT_of (List.mem_of_getElem? (i := 942) (by decide +kernel)) rfl
theorem tw_943 : (Jvm.Cond.methodLink "RangeSchedulerModel" (148 : Nat) ({ cls := "RangeSchedulerModel", name := "isNode", desc := "(I)Z" } : Jvm.MethodName)) ∈ GT := GT_of (List.mem_of_getElem? (i := 943) (by decide +kernel)) rfl
theorem tw_945 : (Jvm.Cond.instanceMethod ({ cls := "RangeSchedulerModel", name := "isNode", desc := "(I)Z" } : Jvm.MethodName)) ∈ GT := GT_of (List.mem_of_getElem? (i := 945) (by decide +kernel)) rfl
theorem tw_946 : (Jvm.Cond.code ({ cls := "RangeSchedulerModel", name := "isNode", desc := "(I)Z" } : Jvm.MethodName) prog_11_method_11_code (2 : Nat) (Option.some Jvm.ClassFile.FieldType.boolean)) ∈ GT := GT_of (List.mem_of_getElem? (i := 946) (by decide +kernel)) rfl
theorem tw_947 : (Jvm.Cond.methodLink "RangeSchedulerModel" (151 : Nat) ({ cls := "RangeSchedulerModel", name := "goUp", desc := "()V" } : Jvm.MethodName)) ∈ GT := GT_of (List.mem_of_getElem? (i := 947) (by decide +kernel)) rfl
theorem tw_949 : (Jvm.Cond.instanceMethod ({ cls := "RangeSchedulerModel", name := "goUp", desc := "()V" } : Jvm.MethodName)) ∈ GT := GT_of (List.mem_of_getElem? (i := 949) (by decide +kernel)) rfl
theorem tw_950 : (Jvm.Cond.code ({ cls := "RangeSchedulerModel", name := "goUp", desc := "()V" } : Jvm.MethodName) prog_11_method_53_code (2 : Nat) (Option.none : Option Jvm.ClassFile.FieldType)) ∈ GT := GT_of (List.mem_of_getElem? (i := 950) (by decide +kernel)) rfl
theorem tw_951 : (Jvm.Cond.methodLink "RangeSchedulerModel" (154 : Nat) ({ cls := "RangeSchedulerModel", name := "goDown", desc := "(I)V" } : Jvm.MethodName)) ∈ GT := GT_of (List.mem_of_getElem? (i := 951) (by decide +kernel)) rfl
theorem tw_953 : (Jvm.Cond.instanceMethod ({ cls := "RangeSchedulerModel", name := "goDown", desc := "(I)V" } : Jvm.MethodName)) ∈ GT := GT_of (List.mem_of_getElem? (i := 953) (by decide +kernel)) rfl
theorem tw_954 : (Jvm.Cond.code ({ cls := "RangeSchedulerModel", name := "goDown", desc := "(I)V" } : Jvm.MethodName) prog_11_method_52_code (3 : Nat) (Option.none : Option Jvm.ClassFile.FieldType)) ∈ GT := GT_of (List.mem_of_getElem? (i := 954) (by decide +kernel)) rfl
theorem tw_955 : (Jvm.Cond.methodLink "RangeSchedulerLaw" (26 : Nat) ({ cls := "RangeSchedulerModel", name := "setReplication", desc := "(I)I" } : Jvm.MethodName)) ∈ GT := GT_of (List.mem_of_getElem? (i := 955) (by decide +kernel)) rfl
theorem tw_956 : (Jvm.Cond.instanceMethod ({ cls := "RangeSchedulerModel", name := "setReplication", desc := "(I)I" } : Jvm.MethodName)) ∈ GT := GT_of (List.mem_of_getElem? (i := 956) (by decide +kernel)) rfl
theorem tw_957 : (Jvm.Cond.selects "RangeSchedulerModel" ({ cls := "RangeSchedulerModel", name := "setReplication", desc := "(I)I" } : Jvm.MethodName) ({ cls := "RangeSchedulerModel", name := "setReplication", desc := "(I)I" } : Jvm.MethodName)) ∈ GT := GT_of (List.mem_of_getElem? (i := 957) (by decide +kernel)) rfl
theorem tw_958 : (Jvm.Cond.code ({ cls := "RangeSchedulerModel", name := "setReplication", desc := "(I)I" } : Jvm.MethodName) prog_11_method_56_code (2 : Nat) (Option.some Jvm.ClassFile.FieldType.int)) ∈ GT := GT_of (List.mem_of_getElem? (i := 958) (by decide +kernel)) rfl
theorem tw_959 : (Jvm.Cond.methodLink "RangeSchedulerModel" (157 : Nat) ({ cls := "RangeSchedulerModel", name := "change", desc := "(II)I" } : Jvm.MethodName)) ∈ GT := GT_of (List.mem_of_getElem? (i := 959) (by decide +kernel)) rfl
theorem tw_961 : (Jvm.Cond.instanceMethod ({ cls := "RangeSchedulerModel", name := "change", desc := "(II)I" } : Jvm.MethodName)) ∈ GT := GT_of (List.mem_of_getElem? (i := 961) (by decide +kernel)) rfl
theorem tw_962 : (Jvm.Cond.code ({ cls := "RangeSchedulerModel", name := "change", desc := "(II)I" } : Jvm.MethodName) prog_11_method_55_code (4 : Nat) (Option.some Jvm.ClassFile.FieldType.int)) ∈ GT := GT_of (List.mem_of_getElem? (i := 962) (by decide +kernel)) rfl
theorem tw_963 : (Jvm.Cond.methodLink "RangeSchedulerLaw" (30 : Nat) ({ cls := "RangeSchedulerModel", name := "setSizes", desc := "(II)I" } : Jvm.MethodName)) ∈ GT := GT_of (List.mem_of_getElem? (i := 963) (by decide +kernel)) rfl
theorem tw_964 : (Jvm.Cond.instanceMethod ({ cls := "RangeSchedulerModel", name := "setSizes", desc := "(II)I" } : Jvm.MethodName)) ∈ GT := GT_of (List.mem_of_getElem? (i := 964) (by decide +kernel)) rfl
theorem tw_965 : (Jvm.Cond.selects "RangeSchedulerModel" ({ cls := "RangeSchedulerModel", name := "setSizes", desc := "(II)I" } : Jvm.MethodName) ({ cls := "RangeSchedulerModel", name := "setSizes", desc := "(II)I" } : Jvm.MethodName)) ∈ GT := GT_of (List.mem_of_getElem? (i := 965) (by decide +kernel)) rfl
theorem tw_966 : (Jvm.Cond.code ({ cls := "RangeSchedulerModel", name := "setSizes", desc := "(II)I" } : Jvm.MethodName) prog_11_method_57_code (4 : Nat) (Option.some Jvm.ClassFile.FieldType.int)) ∈ GT := GT_of (List.mem_of_getElem? (i := 966) (by decide +kernel)) rfl
theorem tw_967 : (Jvm.Cond.methodLink "RangeSchedulerLaw" (34 : Nat) ({ cls := "RangeSchedulerModel", name := "setLoads", desc := "(II)I" } : Jvm.MethodName)) ∈ GT := GT_of (List.mem_of_getElem? (i := 967) (by decide +kernel)) rfl
theorem tw_968 : (Jvm.Cond.instanceMethod ({ cls := "RangeSchedulerModel", name := "setLoads", desc := "(II)I" } : Jvm.MethodName)) ∈ GT := GT_of (List.mem_of_getElem? (i := 968) (by decide +kernel)) rfl
theorem tw_969 : (Jvm.Cond.selects "RangeSchedulerModel" ({ cls := "RangeSchedulerModel", name := "setLoads", desc := "(II)I" } : Jvm.MethodName) ({ cls := "RangeSchedulerModel", name := "setLoads", desc := "(II)I" } : Jvm.MethodName)) ∈ GT := GT_of (List.mem_of_getElem? (i := 969) (by decide +kernel)) rfl
theorem tw_970 : (Jvm.Cond.code ({ cls := "RangeSchedulerModel", name := "setLoads", desc := "(II)I" } : Jvm.MethodName) prog_11_method_58_code (4 : Nat) (Option.some Jvm.ClassFile.FieldType.int)) ∈ GT := GT_of (List.mem_of_getElem? (i := 970) (by decide +kernel)) rfl
theorem tw_971 : (Jvm.Cond.methodLink "RangeSchedulerLaw" (38 : Nat) ({ cls := "RangeSchedulerModel", name := "setSpeed", desc := "(I)I" } : Jvm.MethodName)) ∈ GT := GT_of (List.mem_of_getElem? (i := 971) (by decide +kernel)) rfl
theorem tw_972 : (Jvm.Cond.instanceMethod ({ cls := "RangeSchedulerModel", name := "setSpeed", desc := "(I)I" } : Jvm.MethodName)) ∈ GT := GT_of (List.mem_of_getElem? (i := 972) (by decide +kernel)) rfl
theorem tw_973 : (Jvm.Cond.selects "RangeSchedulerModel" ({ cls := "RangeSchedulerModel", name := "setSpeed", desc := "(I)I" } : Jvm.MethodName) ({ cls := "RangeSchedulerModel", name := "setSpeed", desc := "(I)I" } : Jvm.MethodName)) ∈ GT := GT_of (List.mem_of_getElem? (i := 973) (by decide +kernel)) rfl
theorem tw_974 : (Jvm.Cond.code ({ cls := "RangeSchedulerModel", name := "setSpeed", desc := "(I)I" } : Jvm.MethodName) prog_11_method_59_code (2 : Nat) (Option.some Jvm.ClassFile.FieldType.int)) ∈ GT := GT_of (List.mem_of_getElem? (i := 974) (by decide +kernel)) rfl
theorem tw_975 : (Jvm.Cond.methodLink "RangeSchedulerLaw" (42 : Nat) ({ cls := "RangeSchedulerModel", name := "put", desc := "(II)I" } : Jvm.MethodName)) ∈ GT := GT_of (List.mem_of_getElem? (i := 975) (by decide +kernel)) rfl
theorem tw_976 : (Jvm.Cond.instanceMethod ({ cls := "RangeSchedulerModel", name := "put", desc := "(II)I" } : Jvm.MethodName)) ∈ GT := GT_of (List.mem_of_getElem? (i := 976) (by decide +kernel)) rfl
theorem tw_977 : (Jvm.Cond.selects "RangeSchedulerModel" ({ cls := "RangeSchedulerModel", name := "put", desc := "(II)I" } : Jvm.MethodName) ({ cls := "RangeSchedulerModel", name := "put", desc := "(II)I" } : Jvm.MethodName)) ∈ GT := GT_of (List.mem_of_getElem? (i := 977) (by decide +kernel)) rfl
theorem tw_978 : (Jvm.Cond.code ({ cls := "RangeSchedulerModel", name := "put", desc := "(II)I" } : Jvm.MethodName) prog_11_method_60_code (5 : Nat) (Option.some Jvm.ClassFile.FieldType.int)) ∈ GT := GT_of (List.mem_of_getElem? (i := 978) (by decide +kernel)) rfl
theorem tw_979 : (Jvm.Cond.methodLink "RangeSchedulerModel" (160 : Nat) ({ cls := "RangeSchedulerModel", name := "isKey", desc := "(I)Z" } : Jvm.MethodName)) ∈ GT := GT_of (List.mem_of_getElem? (i := 979) (by decide +kernel)) rfl
theorem tw_980 : (Jvm.Cond.static ({ cls := "RangeSchedulerModel", name := "isKey", desc := "(I)Z" } : Jvm.MethodName)) ∈ GT := GT_of (List.mem_of_getElem? (i := 980) (by decide +kernel)) rfl
theorem tw_981 : (Jvm.Cond.code ({ cls := "RangeSchedulerModel", name := "isKey", desc := "(I)Z" } : Jvm.MethodName) prog_11_method_13_code (1 : Nat) (Option.some Jvm.ClassFile.FieldType.boolean)) ∈ GT := GT_of (List.mem_of_getElem? (i := 981) (by decide +kernel)) rfl
theorem tw_982 : (Jvm.Cond.methodLink "RangeSchedulerModel" (163 : Nat) ({ cls := "RangeSchedulerModel", name := "placeOf", desc := "(I)I" } : Jvm.MethodName)) ∈ GT := GT_of (List.mem_of_getElem? (i := 982) (by decide +kernel)) rfl
theorem tw_984 : (Jvm.Cond.instanceMethod ({ cls := "RangeSchedulerModel", name := "placeOf", desc := "(I)I" } : Jvm.MethodName)) ∈ GT := GT_of (List.mem_of_getElem? (i := 984) (by decide +kernel)) rfl
theorem tw_985 : (Jvm.Cond.code ({ cls := "RangeSchedulerModel", name := "placeOf", desc := "(I)I" } : Jvm.MethodName) prog_11_method_25_code (3 : Nat) (Option.some Jvm.ClassFile.FieldType.int)) ∈ GT := GT_of (List.mem_of_getElem? (i := 985) (by decide +kernel)) rfl
theorem tw_986 : (Jvm.Cond.methodLink "RangeSchedulerLaw" (46 : Nat) ({ cls := "RangeSchedulerModel", name := "remove", desc := "(I)I" } : Jvm.MethodName)) ∈ GT := GT_of (List.mem_of_getElem? (i := 986) (by decide +kernel)) rfl
theorem tw_987 : (Jvm.Cond.instanceMethod ({ cls := "RangeSchedulerModel", name := "remove", desc := "(I)I" } : Jvm.MethodName)) ∈ GT := GT_of (List.mem_of_getElem? (i := 987) (by decide +kernel)) rfl
theorem tw_988 : (Jvm.Cond.selects "RangeSchedulerModel" ({ cls := "RangeSchedulerModel", name := "remove", desc := "(I)I" } : Jvm.MethodName) ({ cls := "RangeSchedulerModel", name := "remove", desc := "(I)I" } : Jvm.MethodName)) ∈ GT := GT_of (List.mem_of_getElem? (i := 988) (by decide +kernel)) rfl
theorem tw_989 : (Jvm.Cond.code ({ cls := "RangeSchedulerModel", name := "remove", desc := "(I)I" } : Jvm.MethodName) prog_11_method_61_code (5 : Nat) (Option.some Jvm.ClassFile.FieldType.int)) ∈ GT := GT_of (List.mem_of_getElem? (i := 989) (by decide +kernel)) rfl
theorem tw_990 : (Jvm.Cond.methodLink "RangeSchedulerLaw" (50 : Nat) ({ cls := "RangeSchedulerModel", name := "access", desc := "(I)I" } : Jvm.MethodName)) ∈ GT := GT_of (List.mem_of_getElem? (i := 990) (by decide +kernel)) rfl
theorem tw_991 : (Jvm.Cond.instanceMethod ({ cls := "RangeSchedulerModel", name := "access", desc := "(I)I" } : Jvm.MethodName)) ∈ GT := GT_of (List.mem_of_getElem? (i := 991) (by decide +kernel)) rfl
theorem tw_992 : (Jvm.Cond.selects "RangeSchedulerModel" ({ cls := "RangeSchedulerModel", name := "access", desc := "(I)I" } : Jvm.MethodName) ({ cls := "RangeSchedulerModel", name := "access", desc := "(I)I" } : Jvm.MethodName)) ∈ GT := GT_of (List.mem_of_getElem? (i := 992) (by decide +kernel)) rfl
theorem tw_993 : (Jvm.Cond.code ({ cls := "RangeSchedulerModel", name := "access", desc := "(I)I" } : Jvm.MethodName) prog_11_method_62_code (3 : Nat) (Option.some Jvm.ClassFile.FieldType.int)) ∈ GT := GT_of (List.mem_of_getElem? (i := 993) (by decide +kernel)) rfl
theorem tw_994 : (Jvm.Cond.methodLink "RangeSchedulerModel" (166 : Nat) ({ cls := "RangeSchedulerModel", name := "rangeAt", desc := "(I)I" } : Jvm.MethodName)) ∈ GT := GT_of (List.mem_of_getElem? (i := 994) (by decide +kernel)) rfl
theorem tw_996 : (Jvm.Cond.instanceMethod ({ cls := "RangeSchedulerModel", name := "rangeAt", desc := "(I)I" } : Jvm.MethodName)) ∈ GT := GT_of (List.mem_of_getElem? (i := 996) (by decide +kernel)) rfl
theorem tw_997 : (Jvm.Cond.code ({ cls := "RangeSchedulerModel", name := "rangeAt", desc := "(I)I" } : Jvm.MethodName) prog_11_method_29_code (3 : Nat) (Option.some Jvm.ClassFile.FieldType.int)) ∈ GT := GT_of (List.mem_of_getElem? (i := 997) (by decide +kernel)) rfl
theorem tw_998 : (Jvm.Cond.methodLink "RangeSchedulerLaw" (54 : Nat) ({ cls := "RangeSchedulerModel", name := "splitAt", desc := "(I)I" } : Jvm.MethodName)) ∈ GT := GT_of (List.mem_of_getElem? (i := 998) (by decide +kernel)) rfl
theorem tw_999 : (Jvm.Cond.instanceMethod ({ cls := "RangeSchedulerModel", name := "splitAt", desc := "(I)I" } : Jvm.MethodName)) ∈ GT := GT_of (List.mem_of_getElem? (i := 999) (by decide +kernel)) rfl
theorem tw_1000 : (Jvm.Cond.selects "RangeSchedulerModel" ({ cls := "RangeSchedulerModel", name := "splitAt", desc := "(I)I" } : Jvm.MethodName) ({ cls := "RangeSchedulerModel", name := "splitAt", desc := "(I)I" } : Jvm.MethodName)) ∈ GT := GT_of (List.mem_of_getElem? (i := 1000) (by decide +kernel)) rfl
theorem tw_1001 : (Jvm.Cond.code ({ cls := "RangeSchedulerModel", name := "splitAt", desc := "(I)I" } : Jvm.MethodName) prog_11_method_63_code (3 : Nat) (Option.some Jvm.ClassFile.FieldType.int)) ∈ GT := GT_of (List.mem_of_getElem? (i := 1001) (by decide +kernel)) rfl
theorem tw_1002 : (Jvm.Cond.methodLink "RangeSchedulerLaw" (58 : Nat) ({ cls := "RangeSchedulerModel", name := "sizeOf", desc := "(I)I" } : Jvm.MethodName)) ∈ GT := GT_of (List.mem_of_getElem? (i := 1002) (by decide +kernel)) rfl
theorem tw_1003 : (Jvm.Cond.instanceMethod ({ cls := "RangeSchedulerModel", name := "sizeOf", desc := "(I)I" } : Jvm.MethodName)) ∈ GT := GT_of (List.mem_of_getElem? (i := 1003) (by decide +kernel)) rfl
theorem tw_1004 : (Jvm.Cond.selects "RangeSchedulerModel" ({ cls := "RangeSchedulerModel", name := "sizeOf", desc := "(I)I" } : Jvm.MethodName) ({ cls := "RangeSchedulerModel", name := "sizeOf", desc := "(I)I" } : Jvm.MethodName)) ∈ GT := GT_of (List.mem_of_getElem? (i := 1004) (by decide +kernel)) rfl
theorem tw_1005 : (Jvm.Cond.code ({ cls := "RangeSchedulerModel", name := "sizeOf", desc := "(I)I" } : Jvm.MethodName) prog_11_method_64_code (3 : Nat) (Option.some Jvm.ClassFile.FieldType.int)) ∈ GT := GT_of (List.mem_of_getElem? (i := 1005) (by decide +kernel)) rfl
theorem tw_1006 : (Jvm.Cond.methodLink "RangeSchedulerLaw" (79 : Nat) ({ cls := "RangeSchedulerModel", name := "rangeCount", desc := "()I" } : Jvm.MethodName)) ∈ GT := GT_of (List.mem_of_getElem? (i := 1006) (by decide +kernel)) rfl
theorem tw_1007 : (Jvm.Cond.instanceMethod ({ cls := "RangeSchedulerModel", name := "rangeCount", desc := "()I" } : Jvm.MethodName)) ∈ GT := GT_of (List.mem_of_getElem? (i := 1007) (by decide +kernel)) rfl
theorem tw_1008 : (Jvm.Cond.selects "RangeSchedulerModel" ({ cls := "RangeSchedulerModel", name := "rangeCount", desc := "()I" } : Jvm.MethodName) ({ cls := "RangeSchedulerModel", name := "rangeCount", desc := "()I" } : Jvm.MethodName)) ∈ GT := GT_of (List.mem_of_getElem? (i := 1008) (by decide +kernel)) rfl
theorem tw_1009 : (Jvm.Cond.code ({ cls := "RangeSchedulerModel", name := "rangeCount", desc := "()I" } : Jvm.MethodName) prog_11_method_65_code (1 : Nat) (Option.some Jvm.ClassFile.FieldType.int)) ∈ GT := GT_of (List.mem_of_getElem? (i := 1009) (by decide +kernel)) rfl
theorem tw_1010 : (Jvm.Cond.methodLink "RangeSchedulerLaw" (83 : Nat) ({ cls := "RangeSchedulerModel", name := "start", desc := "(I)I" } : Jvm.MethodName)) ∈ GT := GT_of (List.mem_of_getElem? (i := 1010) (by decide +kernel)) rfl
theorem tw_1011 : (Jvm.Cond.instanceMethod ({ cls := "RangeSchedulerModel", name := "start", desc := "(I)I" } : Jvm.MethodName)) ∈ GT := GT_of (List.mem_of_getElem? (i := 1011) (by decide +kernel)) rfl
theorem tw_1012 : (Jvm.Cond.selects "RangeSchedulerModel" ({ cls := "RangeSchedulerModel", name := "start", desc := "(I)I" } : Jvm.MethodName) ({ cls := "RangeSchedulerModel", name := "start", desc := "(I)I" } : Jvm.MethodName)) ∈ GT := GT_of (List.mem_of_getElem? (i := 1012) (by decide +kernel)) rfl
theorem tw_1013 : (Jvm.Cond.code ({ cls := "RangeSchedulerModel", name := "start", desc := "(I)I" } : Jvm.MethodName) prog_11_method_66_code (2 : Nat) (Option.some Jvm.ClassFile.FieldType.int)) ∈ GT := GT_of (List.mem_of_getElem? (i := 1013) (by decide +kernel)) rfl
theorem tw_1014 : (Jvm.Cond.methodLink "RangeSchedulerModel" (169 : Nat) ({ cls := "RangeSchedulerModel", name := "isRange", desc := "(I)Z" } : Jvm.MethodName)) ∈ GT := GT_of (List.mem_of_getElem? (i := 1014) (by decide +kernel)) rfl
theorem tw_1016 : (Jvm.Cond.instanceMethod ({ cls := "RangeSchedulerModel", name := "isRange", desc := "(I)Z" } : Jvm.MethodName)) ∈ GT := GT_of (List.mem_of_getElem? (i := 1016) (by decide +kernel)) rfl
theorem tw_1017 : (Jvm.Cond.code ({ cls := "RangeSchedulerModel", name := "isRange", desc := "(I)Z" } : Jvm.MethodName) prog_11_method_12_code (2 : Nat) (Option.some Jvm.ClassFile.FieldType.boolean)) ∈ GT := GT_of (List.mem_of_getElem? (i := 1017) (by decide +kernel)) rfl
theorem tw_1018 : (Jvm.Cond.methodLink "RangeSchedulerLaw" (87 : Nat) ({ cls := "RangeSchedulerModel", name := "size", desc := "(I)I" } : Jvm.MethodName)) ∈ GT := GT_of (List.mem_of_getElem? (i := 1018) (by decide +kernel)) rfl
theorem tw_1019 : (Jvm.Cond.instanceMethod ({ cls := "RangeSchedulerModel", name := "size", desc := "(I)I" } : Jvm.MethodName)) ∈ GT := GT_of (List.mem_of_getElem? (i := 1019) (by decide +kernel)) rfl
theorem tw_1020 : (Jvm.Cond.selects "RangeSchedulerModel" ({ cls := "RangeSchedulerModel", name := "size", desc := "(I)I" } : Jvm.MethodName) ({ cls := "RangeSchedulerModel", name := "size", desc := "(I)I" } : Jvm.MethodName)) ∈ GT := GT_of (List.mem_of_getElem? (i := 1020) (by decide +kernel)) rfl
theorem tw_1021 : (Jvm.Cond.code ({ cls := "RangeSchedulerModel", name := "size", desc := "(I)I" } : Jvm.MethodName) prog_11_method_67_code (2 : Nat) (Option.some Jvm.ClassFile.FieldType.int)) ∈ GT := GT_of (List.mem_of_getElem? (i := 1021) (by decide +kernel)) rfl
theorem tw_1022 : (Jvm.Cond.methodLink "RangeSchedulerLaw" (91 : Nat) ({ cls := "RangeSchedulerModel", name := "load", desc := "(I)I" } : Jvm.MethodName)) ∈ GT := GT_of (List.mem_of_getElem? (i := 1022) (by decide +kernel)) rfl
theorem tw_1023 : (Jvm.Cond.instanceMethod ({ cls := "RangeSchedulerModel", name := "load", desc := "(I)I" } : Jvm.MethodName)) ∈ GT := GT_of (List.mem_of_getElem? (i := 1023) (by decide +kernel)) rfl
theorem tw_1024 : (Jvm.Cond.selects "RangeSchedulerModel" ({ cls := "RangeSchedulerModel", name := "load", desc := "(I)I" } : Jvm.MethodName) ({ cls := "RangeSchedulerModel", name := "load", desc := "(I)I" } : Jvm.MethodName)) ∈ GT := GT_of (List.mem_of_getElem? (i := 1024) (by decide +kernel)) rfl
theorem tw_1025 : (Jvm.Cond.code ({ cls := "RangeSchedulerModel", name := "load", desc := "(I)I" } : Jvm.MethodName) prog_11_method_68_code (2 : Nat) (Option.some Jvm.ClassFile.FieldType.int)) ∈ GT := GT_of (List.mem_of_getElem? (i := 1025) (by decide +kernel)) rfl
theorem tw_1026 : (Jvm.Cond.methodLink "RangeSchedulerLaw" (95 : Nat) ({ cls := "RangeSchedulerModel", name := "rangeOf", desc := "(I)I" } : Jvm.MethodName)) ∈ GT := GT_of (List.mem_of_getElem? (i := 1026) (by decide +kernel)) rfl
theorem tw_1027 : (Jvm.Cond.instanceMethod ({ cls := "RangeSchedulerModel", name := "rangeOf", desc := "(I)I" } : Jvm.MethodName)) ∈ GT := GT_of (List.mem_of_getElem? (i := 1027) (by decide +kernel)) rfl
theorem tw_1028 : (Jvm.Cond.selects "RangeSchedulerModel" ({ cls := "RangeSchedulerModel", name := "rangeOf", desc := "(I)I" } : Jvm.MethodName) ({ cls := "RangeSchedulerModel", name := "rangeOf", desc := "(I)I" } : Jvm.MethodName)) ∈ GT := GT_of (List.mem_of_getElem? (i := 1028) (by decide +kernel)) rfl
theorem tw_1029 : (Jvm.Cond.code ({ cls := "RangeSchedulerModel", name := "rangeOf", desc := "(I)I" } : Jvm.MethodName) prog_11_method_69_code (2 : Nat) (Option.some Jvm.ClassFile.FieldType.int)) ∈ GT := GT_of (List.mem_of_getElem? (i := 1029) (by decide +kernel)) rfl
theorem tw_1030 : (Jvm.Cond.methodLink "RangeSchedulerLaw" (99 : Nat) ({ cls := "RangeSchedulerModel", name := "voters", desc := "(I)I" } : Jvm.MethodName)) ∈ GT := GT_of (List.mem_of_getElem? (i := 1030) (by decide +kernel)) rfl
theorem tw_1031 : (Jvm.Cond.instanceMethod ({ cls := "RangeSchedulerModel", name := "voters", desc := "(I)I" } : Jvm.MethodName)) ∈ GT := GT_of (List.mem_of_getElem? (i := 1031) (by decide +kernel)) rfl
theorem tw_1032 : (Jvm.Cond.selects "RangeSchedulerModel" ({ cls := "RangeSchedulerModel", name := "voters", desc := "(I)I" } : Jvm.MethodName) ({ cls := "RangeSchedulerModel", name := "voters", desc := "(I)I" } : Jvm.MethodName)) ∈ GT := GT_of (List.mem_of_getElem? (i := 1032) (by decide +kernel)) rfl
theorem tw_1033 : (Jvm.Cond.code ({ cls := "RangeSchedulerModel", name := "voters", desc := "(I)I" } : Jvm.MethodName) prog_11_method_70_code (2 : Nat) (Option.some Jvm.ClassFile.FieldType.int)) ∈ GT := GT_of (List.mem_of_getElem? (i := 1033) (by decide +kernel)) rfl
theorem tw_1034 : (Jvm.Cond.methodLink "RangeSchedulerLaw" (103 : Nat) ({ cls := "RangeSchedulerModel", name := "leader", desc := "(I)I" } : Jvm.MethodName)) ∈ GT := GT_of (List.mem_of_getElem? (i := 1034) (by decide +kernel)) rfl
theorem tw_1035 : (Jvm.Cond.instanceMethod ({ cls := "RangeSchedulerModel", name := "leader", desc := "(I)I" } : Jvm.MethodName)) ∈ GT := GT_of (List.mem_of_getElem? (i := 1035) (by decide +kernel)) rfl
theorem tw_1036 : (Jvm.Cond.selects "RangeSchedulerModel" ({ cls := "RangeSchedulerModel", name := "leader", desc := "(I)I" } : Jvm.MethodName) ({ cls := "RangeSchedulerModel", name := "leader", desc := "(I)I" } : Jvm.MethodName)) ∈ GT := GT_of (List.mem_of_getElem? (i := 1036) (by decide +kernel)) rfl
theorem tw_1037 : (Jvm.Cond.code ({ cls := "RangeSchedulerModel", name := "leader", desc := "(I)I" } : Jvm.MethodName) prog_11_method_71_code (2 : Nat) (Option.some Jvm.ClassFile.FieldType.int)) ∈ GT := GT_of (List.mem_of_getElem? (i := 1037) (by decide +kernel)) rfl
theorem tw_1038 : (Jvm.Cond.methodLink "RangeSchedulerLaw" (107 : Nat) ({ cls := "RangeSchedulerModel", name := "learner", desc := "(I)I" } : Jvm.MethodName)) ∈ GT := GT_of (List.mem_of_getElem? (i := 1038) (by decide +kernel)) rfl
theorem tw_1039 : (Jvm.Cond.instanceMethod ({ cls := "RangeSchedulerModel", name := "learner", desc := "(I)I" } : Jvm.MethodName)) ∈ GT := GT_of (List.mem_of_getElem? (i := 1039) (by decide +kernel)) rfl
theorem tw_1040 : (Jvm.Cond.selects "RangeSchedulerModel" ({ cls := "RangeSchedulerModel", name := "learner", desc := "(I)I" } : Jvm.MethodName) ({ cls := "RangeSchedulerModel", name := "learner", desc := "(I)I" } : Jvm.MethodName)) ∈ GT := GT_of (List.mem_of_getElem? (i := 1040) (by decide +kernel)) rfl
theorem tw_1041 : (Jvm.Cond.code ({ cls := "RangeSchedulerModel", name := "learner", desc := "(I)I" } : Jvm.MethodName) prog_11_method_73_code (2 : Nat) (Option.some Jvm.ClassFile.FieldType.int)) ∈ GT := GT_of (List.mem_of_getElem? (i := 1041) (by decide +kernel)) rfl
theorem tw_1042 : (Jvm.Cond.methodLink "RangeSchedulerModel" (172 : Nat) ({ cls := "RangeSchedulerModel", name := "learnerOf", desc := "(I)I" } : Jvm.MethodName)) ∈ GT := GT_of (List.mem_of_getElem? (i := 1042) (by decide +kernel)) rfl
theorem tw_1044 : (Jvm.Cond.instanceMethod ({ cls := "RangeSchedulerModel", name := "learnerOf", desc := "(I)I" } : Jvm.MethodName)) ∈ GT := GT_of (List.mem_of_getElem? (i := 1044) (by decide +kernel)) rfl
theorem tw_1045 : (Jvm.Cond.code ({ cls := "RangeSchedulerModel", name := "learnerOf", desc := "(I)I" } : Jvm.MethodName) prog_11_method_72_code (2 : Nat) (Option.some Jvm.ClassFile.FieldType.int)) ∈ GT := GT_of (List.mem_of_getElem? (i := 1045) (by decide +kernel)) rfl
theorem tw_1046 : (Jvm.Cond.methodLink "RangeSchedulerLaw" (111 : Nat) ({ cls := "RangeSchedulerModel", name := "isAvailable", desc := "(I)I" } : Jvm.MethodName)) ∈ GT := GT_of (List.mem_of_getElem? (i := 1046) (by decide +kernel)) rfl
theorem tw_1047 : (Jvm.Cond.instanceMethod ({ cls := "RangeSchedulerModel", name := "isAvailable", desc := "(I)I" } : Jvm.MethodName)) ∈ GT := GT_of (List.mem_of_getElem? (i := 1047) (by decide +kernel)) rfl
theorem tw_1048 : (Jvm.Cond.selects "RangeSchedulerModel" ({ cls := "RangeSchedulerModel", name := "isAvailable", desc := "(I)I" } : Jvm.MethodName) ({ cls := "RangeSchedulerModel", name := "isAvailable", desc := "(I)I" } : Jvm.MethodName)) ∈ GT := GT_of (List.mem_of_getElem? (i := 1048) (by decide +kernel)) rfl
theorem tw_1049 : (Jvm.Cond.code ({ cls := "RangeSchedulerModel", name := "isAvailable", desc := "(I)I" } : Jvm.MethodName) prog_11_method_74_code (2 : Nat) (Option.some Jvm.ClassFile.FieldType.int)) ∈ GT := GT_of (List.mem_of_getElem? (i := 1049) (by decide +kernel)) rfl
theorem tw_1050 : (Jvm.Cond.methodLink "RangeSchedulerLaw" (115 : Nat) ({ cls := "RangeSchedulerModel", name := "splitKey", desc := "(II)I" } : Jvm.MethodName)) ∈ GT := GT_of (List.mem_of_getElem? (i := 1050) (by decide +kernel)) rfl
theorem tw_1051 : (Jvm.Cond.instanceMethod ({ cls := "RangeSchedulerModel", name := "splitKey", desc := "(II)I" } : Jvm.MethodName)) ∈ GT := GT_of (List.mem_of_getElem? (i := 1051) (by decide +kernel)) rfl
theorem tw_1052 : (Jvm.Cond.selects "RangeSchedulerModel" ({ cls := "RangeSchedulerModel", name := "splitKey", desc := "(II)I" } : Jvm.MethodName) ({ cls := "RangeSchedulerModel", name := "splitKey", desc := "(II)I" } : Jvm.MethodName)) ∈ GT := GT_of (List.mem_of_getElem? (i := 1052) (by decide +kernel)) rfl
theorem tw_1053 : (Jvm.Cond.code ({ cls := "RangeSchedulerModel", name := "splitKey", desc := "(II)I" } : Jvm.MethodName) prog_11_method_75_code (3 : Nat) (Option.some Jvm.ClassFile.FieldType.int)) ∈ GT := GT_of (List.mem_of_getElem? (i := 1053) (by decide +kernel)) rfl
theorem tw_1054 : (Jvm.Cond.methodLink "RangeSchedulerLaw" (119 : Nat) ({ cls := "RangeSchedulerModel", name := "replicas", desc := "(I)I" } : Jvm.MethodName)) ∈ GT := GT_of (List.mem_of_getElem? (i := 1054) (by decide +kernel)) rfl
theorem tw_1055 : (Jvm.Cond.instanceMethod ({ cls := "RangeSchedulerModel", name := "replicas", desc := "(I)I" } : Jvm.MethodName)) ∈ GT := GT_of (List.mem_of_getElem? (i := 1055) (by decide +kernel)) rfl
theorem tw_1056 : (Jvm.Cond.selects "RangeSchedulerModel" ({ cls := "RangeSchedulerModel", name := "replicas", desc := "(I)I" } : Jvm.MethodName) ({ cls := "RangeSchedulerModel", name := "replicas", desc := "(I)I" } : Jvm.MethodName)) ∈ GT := GT_of (List.mem_of_getElem? (i := 1056) (by decide +kernel)) rfl
theorem tw_1057 : (Jvm.Cond.code ({ cls := "RangeSchedulerModel", name := "replicas", desc := "(I)I" } : Jvm.MethodName) prog_11_method_76_code (2 : Nat) (Option.some Jvm.ClassFile.FieldType.int)) ∈ GT := GT_of (List.mem_of_getElem? (i := 1057) (by decide +kernel)) rfl
theorem tw_1058 : (Jvm.Cond.methodLink "RangeSchedulerLaw" (123 : Nat) ({ cls := "RangeSchedulerModel", name := "leaders", desc := "(I)I" } : Jvm.MethodName)) ∈ GT := GT_of (List.mem_of_getElem? (i := 1058) (by decide +kernel)) rfl
theorem tw_1059 : (Jvm.Cond.instanceMethod ({ cls := "RangeSchedulerModel", name := "leaders", desc := "(I)I" } : Jvm.MethodName)) ∈ GT := GT_of (List.mem_of_getElem? (i := 1059) (by decide +kernel)) rfl
theorem tw_1060 : (Jvm.Cond.selects "RangeSchedulerModel" ({ cls := "RangeSchedulerModel", name := "leaders", desc := "(I)I" } : Jvm.MethodName) ({ cls := "RangeSchedulerModel", name := "leaders", desc := "(I)I" } : Jvm.MethodName)) ∈ GT := GT_of (List.mem_of_getElem? (i := 1060) (by decide +kernel)) rfl
theorem tw_1061 : (Jvm.Cond.code ({ cls := "RangeSchedulerModel", name := "leaders", desc := "(I)I" } : Jvm.MethodName) prog_11_method_77_code (2 : Nat) (Option.some Jvm.ClassFile.FieldType.int)) ∈ GT := GT_of (List.mem_of_getElem? (i := 1061) (by decide +kernel)) rfl
theorem tw_1062 : (Jvm.Cond.methodLink "RangeSchedulerLaw" (131 : Nat) ({ cls := "RangeSchedulerModel", name := "errorCount", desc := "(I)I" } : Jvm.MethodName)) ∈ GT := GT_of (List.mem_of_getElem? (i := 1062) (by decide +kernel)) rfl
theorem tw_1063 : (Jvm.Cond.instanceMethod ({ cls := "RangeSchedulerModel", name := "errorCount", desc := "(I)I" } : Jvm.MethodName)) ∈ GT := GT_of (List.mem_of_getElem? (i := 1063) (by decide +kernel)) rfl
theorem tw_1064 : (Jvm.Cond.selects "RangeSchedulerModel" ({ cls := "RangeSchedulerModel", name := "errorCount", desc := "(I)I" } : Jvm.MethodName) ({ cls := "RangeSchedulerModel", name := "errorCount", desc := "(I)I" } : Jvm.MethodName)) ∈ GT := GT_of (List.mem_of_getElem? (i := 1064) (by decide +kernel)) rfl
theorem tw_1065 : (Jvm.Cond.code ({ cls := "RangeSchedulerModel", name := "errorCount", desc := "(I)I" } : Jvm.MethodName) prog_11_method_78_code (2 : Nat) (Option.some Jvm.ClassFile.FieldType.int)) ∈ GT := GT_of (List.mem_of_getElem? (i := 1065) (by decide +kernel)) rfl
theorem tw_1066 : (Jvm.Cond.methodLink "RangeSchedulerLaw" (136 : Nat) ({ cls := "RangeSchedulerModel", name := "digest", desc := "()J" } : Jvm.MethodName)) ∈ GT := GT_of (List.mem_of_getElem? (i := 1066) (by decide +kernel)) rfl
theorem tw_1067 : (Jvm.Cond.instanceMethod ({ cls := "RangeSchedulerModel", name := "digest", desc := "()J" } : Jvm.MethodName)) ∈ GT := GT_of (List.mem_of_getElem? (i := 1067) (by decide +kernel)) rfl
theorem tw_1068 : (Jvm.Cond.selects "RangeSchedulerModel" ({ cls := "RangeSchedulerModel", name := "digest", desc := "()J" } : Jvm.MethodName) ({ cls := "RangeSchedulerModel", name := "digest", desc := "()J" } : Jvm.MethodName)) ∈ GT := GT_of (List.mem_of_getElem? (i := 1068) (by decide +kernel)) rfl
theorem tw_1069 : (Jvm.Cond.code ({ cls := "RangeSchedulerModel", name := "digest", desc := "()J" } : Jvm.MethodName) prog_11_method_80_code (3 : Nat) (Option.some Jvm.ClassFile.FieldType.long)) ∈ GT := GT_of (List.mem_of_getElem? (i := 1069) (by decide +kernel)) rfl
theorem tw_1070 : (Jvm.Cond.constantLong "RangeSchedulerModel" (181 : Nat) (12532 : Int64)) ∈ GT := GT_of (List.mem_of_getElem? (i := 1070) (by decide +kernel)) rfl
theorem tw_1071 : (Jvm.Cond.methodLink "RangeSchedulerModel" (183 : Nat) ({ cls := "RangeSchedulerModel", name := "add", desc := "(I)V" } : Jvm.MethodName)) ∈ GT := GT_of (List.mem_of_getElem? (i := 1071) (by decide +kernel)) rfl
theorem tw_1073 : (Jvm.Cond.instanceMethod ({ cls := "RangeSchedulerModel", name := "add", desc := "(I)V" } : Jvm.MethodName)) ∈ GT := GT_of (List.mem_of_getElem? (i := 1073) (by decide +kernel)) rfl
theorem tw_1074 : (Jvm.Cond.code ({ cls := "RangeSchedulerModel", name := "add", desc := "(I)V" } : Jvm.MethodName) prog_11_method_79_code (2 : Nat) (Option.none : Option Jvm.ClassFile.FieldType)) ∈ GT := GT_of (List.mem_of_getElem? (i := 1074) (by decide +kernel)) rfl
theorem tw_1075 : (Jvm.Cond.constantLong "RangeSchedulerModel" (175 : Nat) (31 : Int64)) ∈ GT := GT_of (List.mem_of_getElem? (i := 1075) (by decide +kernel)) rfl
theorem tw_iarr : (Jvm.Cond.arrayClass Jvm.ClassFile.FieldType.int) ∈ GT := tw_98
/-- the links among nest mates: carried by hand -/
def nwL : List Cond := [(Jvm.Cond.methodLinkNest "RangeScheduler$Driver" (11 : Nat) ({ cls := "RangeScheduler$Cluster", name := "<init>", desc := "()V" } : Jvm.MethodName) "RangeScheduler"), (Jvm.Cond.methodLinkNest "RangeScheduler$Cluster" (11 : Nat) ({ cls := "RangeScheduler$Settings", name := "<init>", desc := "()V" } : Jvm.MethodName) "RangeScheduler"), (Jvm.Cond.methodLinkNest "RangeScheduler$Cluster" (20 : Nat) ({ cls := "RangeScheduler$Nodes", name := "<init>", desc := "()V" } : Jvm.MethodName) "RangeScheduler"), (Jvm.Cond.methodLinkNest "RangeScheduler$Cluster" (34 : Nat) ({ cls := "RangeScheduler$Items", name := "<init>", desc := "()V" } : Jvm.MethodName) "RangeScheduler"), (Jvm.Cond.methodLinkNest "RangeScheduler$Cluster" (41 : Nat) ({ cls := "RangeScheduler$Samples", name := "<init>", desc := "()V" } : Jvm.MethodName) "RangeScheduler"), (Jvm.Cond.methodLinkNest "RangeScheduler$History" (17 : Nat) ({ cls := "RangeScheduler$Cluster", name := "<init>", desc := "()V" } : Jvm.MethodName) "RangeScheduler"), (Jvm.Cond.methodLinkNest "RangeScheduler$Nodes" (29 : Nat) ({ cls := "RangeScheduler", name := "copyRow", desc := "([I[I)V" } : Jvm.MethodName) "RangeScheduler"), (Jvm.Cond.methodLinkNest "RangeScheduler$Ranges" (54 : Nat) ({ cls := "RangeScheduler", name := "copyRow", desc := "([I[I)V" } : Jvm.MethodName) "RangeScheduler"), (Jvm.Cond.methodLinkNest "RangeScheduler$Items" (40 : Nat) ({ cls := "RangeScheduler", name := "copyRow", desc := "([I[I)V" } : Jvm.MethodName) "RangeScheduler"), (Jvm.Cond.methodLinkNest "RangeScheduler$Samples" (32 : Nat) ({ cls := "RangeScheduler", name := "copyRow", desc := "([I[I)V" } : Jvm.MethodName) "RangeScheduler"), (Jvm.Cond.methodLinkNest "RangeScheduler$Cluster" (129 : Nat) ({ cls := "RangeScheduler", name := "copyRow", desc := "([I[I)V" } : Jvm.MethodName) "RangeScheduler"), (Jvm.Cond.methodLinkNest "RangeScheduler$Nodes" (25 : Nat) ({ cls := "RangeScheduler", name := "bit", desc := "(I)I" } : Jvm.MethodName) "RangeScheduler"), (Jvm.Cond.methodLinkNest "RangeScheduler$Cluster" (91 : Nat) ({ cls := "RangeScheduler", name := "bit", desc := "(I)I" } : Jvm.MethodName) "RangeScheduler"), (Jvm.Cond.methodLinkNest "RangeScheduler$Driver" (78 : Nat) ({ cls := "RangeScheduler", name := "bit", desc := "(I)I" } : Jvm.MethodName) "RangeScheduler"), (Jvm.Cond.methodLinkNest "RangeScheduler$Ranges" (42 : Nat) ({ cls := "RangeScheduler", name := "bit", desc := "(I)I" } : Jvm.MethodName) "RangeScheduler")]
theorem tn_30 : (Jvm.Cond.methodLinkNest "RangeScheduler$Driver" (11 : Nat) ({ cls := "RangeScheduler$Cluster", name := "<init>", desc := "()V" } : Jvm.MethodName) "RangeScheduler") ∈ tables_1 := List.mem_of_getElem? (i := 30) (by decide +kernel)
theorem tn_36 : (Jvm.Cond.methodLinkNest "RangeScheduler$Cluster" (11 : Nat) ({ cls := "RangeScheduler$Settings", name := "<init>", desc := "()V" } : Jvm.MethodName) "RangeScheduler") ∈ tables_1 := List.mem_of_getElem? (i := 36) (by decide +kernel)
theorem tn_72 : (Jvm.Cond.methodLinkNest "RangeScheduler$Cluster" (20 : Nat) ({ cls := "RangeScheduler$Nodes", name := "<init>", desc := "()V" } : Jvm.MethodName) "RangeScheduler") ∈ tables_1 := List.mem_of_getElem? (i := 72) (by decide +kernel)
theorem tn_145 : (Jvm.Cond.methodLinkNest "RangeScheduler$Cluster" (34 : Nat) ({ cls := "RangeScheduler$Items", name := "<init>", desc := "()V" } : Jvm.MethodName) "RangeScheduler") ∈ tables_1 := List.mem_of_getElem? (i := 145) (by decide +kernel)
theorem tn_162 : (Jvm.Cond.methodLinkNest "RangeScheduler$Cluster" (41 : Nat) ({ cls := "RangeScheduler$Samples", name := "<init>", desc := "()V" } : Jvm.MethodName) "RangeScheduler") ∈ tables_1 := List.mem_of_getElem? (i := 162) (by decide +kernel)
theorem tn_231 : (Jvm.Cond.methodLinkNest "RangeScheduler$History" (17 : Nat) ({ cls := "RangeScheduler$Cluster", name := "<init>", desc := "()V" } : Jvm.MethodName) "RangeScheduler") ∈ tables_1 := List.mem_of_getElem? (i := 231) (by decide +kernel)
theorem tn_289 : (Jvm.Cond.methodLinkNest "RangeScheduler$Nodes" (29 : Nat) ({ cls := "RangeScheduler", name := "copyRow", desc := "([I[I)V" } : Jvm.MethodName) "RangeScheduler") ∈ tables_1 := List.mem_of_getElem? (i := 289) (by decide +kernel)
theorem tn_302 : (Jvm.Cond.methodLinkNest "RangeScheduler$Ranges" (54 : Nat) ({ cls := "RangeScheduler", name := "copyRow", desc := "([I[I)V" } : Jvm.MethodName) "RangeScheduler") ∈ tables_1 := List.mem_of_getElem? (i := 302) (by decide +kernel)
theorem tn_307 : (Jvm.Cond.methodLinkNest "RangeScheduler$Items" (40 : Nat) ({ cls := "RangeScheduler", name := "copyRow", desc := "([I[I)V" } : Jvm.MethodName) "RangeScheduler") ∈ tables_1 := List.mem_of_getElem? (i := 307) (by decide +kernel)
theorem tn_312 : (Jvm.Cond.methodLinkNest "RangeScheduler$Samples" (32 : Nat) ({ cls := "RangeScheduler", name := "copyRow", desc := "([I[I)V" } : Jvm.MethodName) "RangeScheduler") ∈ tables_1 := List.mem_of_getElem? (i := 312) (by decide +kernel)
theorem tn_313 : (Jvm.Cond.methodLinkNest "RangeScheduler$Cluster" (129 : Nat) ({ cls := "RangeScheduler", name := "copyRow", desc := "([I[I)V" } : Jvm.MethodName) "RangeScheduler") ∈ tables_1 := List.mem_of_getElem? (i := 313) (by decide +kernel)
theorem tn_319 : (Jvm.Cond.methodLinkNest "RangeScheduler$Nodes" (25 : Nat) ({ cls := "RangeScheduler", name := "bit", desc := "(I)I" } : Jvm.MethodName) "RangeScheduler") ∈ tables_1 := List.mem_of_getElem? (i := 319) (by decide +kernel)
theorem tn_338 : (Jvm.Cond.methodLinkNest "RangeScheduler$Cluster" (91 : Nat) ({ cls := "RangeScheduler", name := "bit", desc := "(I)I" } : Jvm.MethodName) "RangeScheduler") ∈ tables_1 := List.mem_of_getElem? (i := 338) (by decide +kernel)
theorem tn_481 : (Jvm.Cond.methodLinkNest "RangeScheduler$Driver" (78 : Nat) ({ cls := "RangeScheduler", name := "bit", desc := "(I)I" } : Jvm.MethodName) "RangeScheduler") ∈ tables_1 := List.mem_of_getElem? (i := 481) (by decide +kernel)
theorem tn_499 : (Jvm.Cond.methodLinkNest "RangeScheduler$Ranges" (42 : Nat) ({ cls := "RangeScheduler", name := "bit", desc := "(I)I" } : Jvm.MethodName) "RangeScheduler") ∈ tables_1 := List.mem_of_getElem? (i := 499) (by decide +kernel)
def NW (U : State) : Prop := ∀ w ∈ nwL, va_Nw w U
theorem ts_0 : Cond.selects "RangeScheduler" ⟨"RangeScheduler", "fail", "(I)I"⟩ ⟨"RangeScheduler", "fail", "(I)I"⟩ ∈ GT := GT_sel (q := (⟨"RangeScheduler", "fail", "(I)I"⟩, 6)) (List.mem_of_getElem? (i := 0) (by decide +kernel)) rfl
theorem ts_1 : Cond.selects "RangeScheduler$Items" ⟨"RangeScheduler$Items", "placeOf", "(I)I"⟩ ⟨"RangeScheduler$Items", "placeOf", "(I)I"⟩ ∈ GT := GT_sel (q := (⟨"RangeScheduler$Items", "placeOf", "(I)I"⟩, 3)) (List.mem_of_getElem? (i := 1) (by decide +kernel)) rfl
theorem ts_2 : Cond.selects "RangeScheduler$Items" ⟨"RangeScheduler$Items", "isAt", "(II)Z"⟩ ⟨"RangeScheduler$Items", "isAt", "(II)Z"⟩ ∈ GT := GT_sel (q := (⟨"RangeScheduler$Items", "isAt", "(II)Z"⟩, 3)) (List.mem_of_getElem? (i := 2) (by decide +kernel)) rfl
theorem ts_3 : Cond.selects "RangeScheduler$Ranges" ⟨"RangeScheduler$Ranges", "copyWithin", "(II)V"⟩ ⟨"RangeScheduler$Ranges", "copyWithin", "(II)V"⟩ ∈ GT := GT_sel (q := (⟨"RangeScheduler$Ranges", "copyWithin", "(II)V"⟩, 7)) (List.mem_of_getElem? (i := 3) (by decide +kernel)) rfl
theorem ts_4 : Cond.selects "RangeScheduler$Driver" ⟨"RangeScheduler$Driver", "advanceLearner", "(I)V"⟩ ⟨"RangeScheduler$Driver", "advanceLearner", "(I)V"⟩ ∈ GT := GT_sel (q := (⟨"RangeScheduler$Driver", "advanceLearner", "(I)V"⟩, 4)) (List.mem_of_getElem? (i := 4) (by decide +kernel)) rfl
theorem ts_5 : Cond.selects "RangeScheduler$Driver" ⟨"RangeScheduler$Driver", "perform", "(II)Z"⟩ ⟨"RangeScheduler$Driver", "perform", "(II)Z"⟩ ∈ GT := GT_sel (q := (⟨"RangeScheduler$Driver", "perform", "(II)Z"⟩, 4)) (List.mem_of_getElem? (i := 5) (by decide +kernel)) rfl
theorem ts_6 : Cond.selects "RangeScheduler$Driver" ⟨"RangeScheduler$Driver", "create", "(I)Z"⟩ ⟨"RangeScheduler$Driver", "create", "(I)Z"⟩ ∈ GT := GT_sel (q := (⟨"RangeScheduler$Driver", "create", "(I)Z"⟩, 4)) (List.mem_of_getElem? (i := 6) (by decide +kernel)) rfl
theorem ts_7 : Cond.selects "RangeScheduler$Driver" ⟨"RangeScheduler$Driver", "choose", "(II)I"⟩ ⟨"RangeScheduler$Driver", "choose", "(II)I"⟩ ∈ GT := GT_sel (q := (⟨"RangeScheduler$Driver", "choose", "(II)I"⟩, 4)) (List.mem_of_getElem? (i := 7) (by decide +kernel)) rfl
theorem ts_8 : Cond.selects "RangeScheduler$Driver" ⟨"RangeScheduler$Driver", "isFresh", "(III)Z"⟩ ⟨"RangeScheduler$Driver", "isFresh", "(III)Z"⟩ ∈ GT := GT_sel (q := (⟨"RangeScheduler$Driver", "isFresh", "(III)Z"⟩, 4)) (List.mem_of_getElem? (i := 8) (by decide +kernel)) rfl
theorem ts_9 : Cond.selects "RangeScheduler$Driver" ⟨"RangeScheduler$Driver", "repair", "(I)Z"⟩ ⟨"RangeScheduler$Driver", "repair", "(I)Z"⟩ ∈ GT := GT_sel (q := (⟨"RangeScheduler$Driver", "repair", "(I)Z"⟩, 4)) (List.mem_of_getElem? (i := 9) (by decide +kernel)) rfl
theorem ts_10 : Cond.selects "RangeScheduler$Driver" ⟨"RangeScheduler$Driver", "lowestOf", "(I)I"⟩ ⟨"RangeScheduler$Driver", "lowestOf", "(I)I"⟩ ∈ GT := GT_sel (q := (⟨"RangeScheduler$Driver", "lowestOf", "(I)I"⟩, 4)) (List.mem_of_getElem? (i := 10) (by decide +kernel)) rfl
theorem ts_11 : Cond.selects "RangeScheduler$Driver" ⟨"RangeScheduler$Driver", "teach", "(III)V"⟩ ⟨"RangeScheduler$Driver", "teach", "(III)V"⟩ ∈ GT := GT_sel (q := (⟨"RangeScheduler$Driver", "teach", "(III)V"⟩, 4)) (List.mem_of_getElem? (i := 11) (by decide +kernel)) rfl
theorem ts_12 : Cond.selects "RangeScheduler$Driver" ⟨"RangeScheduler$Driver", "spread", "(I)Z"⟩ ⟨"RangeScheduler$Driver", "spread", "(I)Z"⟩ ∈ GT := GT_sel (q := (⟨"RangeScheduler$Driver", "spread", "(I)Z"⟩, 4)) (List.mem_of_getElem? (i := 12) (by decide +kernel)) rfl
theorem ts_13 : Cond.selects "RangeScheduler$Driver" ⟨"RangeScheduler$Driver", "isWhole", "(I)Z"⟩ ⟨"RangeScheduler$Driver", "isWhole", "(I)Z"⟩ ∈ GT := GT_sel (q := (⟨"RangeScheduler$Driver", "isWhole", "(I)Z"⟩, 4)) (List.mem_of_getElem? (i := 13) (by decide +kernel)) rfl
theorem ts_14 : Cond.selects "RangeScheduler$Driver" ⟨"RangeScheduler$Driver", "highestSharingZone", "(I)I"⟩ ⟨"RangeScheduler$Driver", "highestSharingZone", "(I)I"⟩ ∈ GT := GT_sel (q := (⟨"RangeScheduler$Driver", "highestSharingZone", "(I)I"⟩, 4)) (List.mem_of_getElem? (i := 14) (by decide +kernel)) rfl
theorem ts_15 : Cond.selects "RangeScheduler$Driver" ⟨"RangeScheduler$Driver", "splitBySize", "(I)Z"⟩ ⟨"RangeScheduler$Driver", "splitBySize", "(I)Z"⟩ ∈ GT := GT_sel (q := (⟨"RangeScheduler$Driver", "splitBySize", "(I)Z"⟩, 4)) (List.mem_of_getElem? (i := 15) (by decide +kernel)) rfl
theorem ts_16 : Cond.selects "RangeScheduler$Driver" ⟨"RangeScheduler$Driver", "divideAt", "(II)Z"⟩ ⟨"RangeScheduler$Driver", "divideAt", "(II)Z"⟩ ∈ GT := GT_sel (q := (⟨"RangeScheduler$Driver", "divideAt", "(II)Z"⟩, 4)) (List.mem_of_getElem? (i := 16) (by decide +kernel)) rfl
theorem ts_17 : Cond.selects "RangeScheduler$Driver" ⟨"RangeScheduler$Driver", "splitByLoad", "(I)Z"⟩ ⟨"RangeScheduler$Driver", "splitByLoad", "(I)Z"⟩ ∈ GT := GT_sel (q := (⟨"RangeScheduler$Driver", "splitByLoad", "(I)Z"⟩, 4)) (List.mem_of_getElem? (i := 17) (by decide +kernel)) rfl
theorem ts_18 : Cond.selects "RangeScheduler$Samples" ⟨"RangeScheduler$Samples", "leastBetween", "(II)I"⟩ ⟨"RangeScheduler$Samples", "leastBetween", "(II)I"⟩ ∈ GT := GT_sel (q := (⟨"RangeScheduler$Samples", "leastBetween", "(II)I"⟩, 2)) (List.mem_of_getElem? (i := 18) (by decide +kernel)) rfl
theorem ts_19 : Cond.selects "RangeScheduler$Driver" ⟨"RangeScheduler$Driver", "merge", "(I)Z"⟩ ⟨"RangeScheduler$Driver", "merge", "(I)Z"⟩ ∈ GT := GT_sel (q := (⟨"RangeScheduler$Driver", "merge", "(I)Z"⟩, 4)) (List.mem_of_getElem? (i := 19) (by decide +kernel)) rfl
theorem ts_20 : Cond.selects "RangeScheduler$Driver" ⟨"RangeScheduler$Driver", "isCold", "(I)Z"⟩ ⟨"RangeScheduler$Driver", "isCold", "(I)Z"⟩ ∈ GT := GT_sel (q := (⟨"RangeScheduler$Driver", "isCold", "(I)Z"⟩, 4)) (List.mem_of_getElem? (i := 20) (by decide +kernel)) rfl
theorem ts_21 : Cond.selects "RangeScheduler$Driver" ⟨"RangeScheduler$Driver", "shiftLeader", "(I)Z"⟩ ⟨"RangeScheduler$Driver", "shiftLeader", "(I)Z"⟩ ∈ GT := GT_sel (q := (⟨"RangeScheduler$Driver", "shiftLeader", "(I)Z"⟩, 4)) (List.mem_of_getElem? (i := 21) (by decide +kernel)) rfl
theorem ts_22 : Cond.selects "RangeScheduler$Driver" ⟨"RangeScheduler$Driver", "shiftReplica", "(I)Z"⟩ ⟨"RangeScheduler$Driver", "shiftReplica", "(I)Z"⟩ ∈ GT := GT_sel (q := (⟨"RangeScheduler$Driver", "shiftReplica", "(I)Z"⟩, 4)) (List.mem_of_getElem? (i := 22) (by decide +kernel)) rfl
theorem ts_23 : Cond.selects "RangeScheduler$Driver" ⟨"RangeScheduler$Driver", "mostLoaded", "(I)I"⟩ ⟨"RangeScheduler$Driver", "mostLoaded", "(I)I"⟩ ∈ GT := GT_sel (q := (⟨"RangeScheduler$Driver", "mostLoaded", "(I)I"⟩, 4)) (List.mem_of_getElem? (i := 23) (by decide +kernel)) rfl
theorem ts_24 : Cond.selects "RangeScheduler" ⟨"RangeScheduler", "mixSettings", "(J)J"⟩ ⟨"RangeScheduler", "mixSettings", "(J)J"⟩ ∈ GT := GT_sel (q := (⟨"RangeScheduler", "mixSettings", "(J)J"⟩, 6)) (List.mem_of_getElem? (i := 24) (by decide +kernel)) rfl
theorem ts_25 : Cond.selects "RangeScheduler" ⟨"RangeScheduler", "mixNodes", "(J)J"⟩ ⟨"RangeScheduler", "mixNodes", "(J)J"⟩ ∈ GT := GT_sel (q := (⟨"RangeScheduler", "mixNodes", "(J)J"⟩, 6)) (List.mem_of_getElem? (i := 25) (by decide +kernel)) rfl
theorem ts_26 : Cond.selects "RangeScheduler" ⟨"RangeScheduler", "mixRanges", "(J)J"⟩ ⟨"RangeScheduler", "mixRanges", "(J)J"⟩ ∈ GT := GT_sel (q := (⟨"RangeScheduler", "mixRanges", "(J)J"⟩, 6)) (List.mem_of_getElem? (i := 26) (by decide +kernel)) rfl
theorem ts_27 : Cond.selects "RangeSchedulerModel" ⟨"RangeSchedulerModel", "set", "(III)V"⟩ ⟨"RangeSchedulerModel", "set", "(III)V"⟩ ∈ GT := GT_sel (q := (⟨"RangeSchedulerModel", "set", "(III)V"⟩, 5)) (List.mem_of_getElem? (i := 27) (by decide +kernel)) rfl
theorem ts_28 : Cond.selects "RangeSchedulerModel" ⟨"RangeSchedulerModel", "fail", "(I)I"⟩ ⟨"RangeSchedulerModel", "fail", "(I)I"⟩ ∈ GT := GT_sel (q := (⟨"RangeSchedulerModel", "fail", "(I)I"⟩, 5)) (List.mem_of_getElem? (i := 28) (by decide +kernel)) rfl
theorem ts_29 : Cond.selects "RangeSchedulerModel" ⟨"RangeSchedulerModel", "note", "()V"⟩ ⟨"RangeSchedulerModel", "note", "()V"⟩ ∈ GT := GT_sel (q := (⟨"RangeSchedulerModel", "note", "()V"⟩, 5)) (List.mem_of_getElem? (i := 29) (by decide +kernel)) rfl
theorem ts_30 : Cond.selects "RangeSchedulerModel" ⟨"RangeSchedulerModel", "oneTick", "()I"⟩ ⟨"RangeSchedulerModel", "oneTick", "()I"⟩ ∈ GT := GT_sel (q := (⟨"RangeSchedulerModel", "oneTick", "()I"⟩, 5)) (List.mem_of_getElem? (i := 30) (by decide +kernel)) rfl
theorem ts_31 : Cond.selects "RangeSchedulerModel" ⟨"RangeSchedulerModel", "progress", "(I)V"⟩ ⟨"RangeSchedulerModel", "progress", "(I)V"⟩ ∈ GT := GT_sel (q := (⟨"RangeSchedulerModel", "progress", "(I)V"⟩, 5)) (List.mem_of_getElem? (i := 31) (by decide +kernel)) rfl
theorem ts_32 : Cond.selects "RangeSchedulerModel" ⟨"RangeSchedulerModel", "of", "(II)I"⟩ ⟨"RangeSchedulerModel", "of", "(II)I"⟩ ∈ GT := GT_sel (q := (⟨"RangeSchedulerModel", "of", "(II)I"⟩, 5)) (List.mem_of_getElem? (i := 32) (by decide +kernel)) rfl
theorem ts_33 : Cond.selects "RangeSchedulerModel" ⟨"RangeSchedulerModel", "isUp", "(I)Z"⟩ ⟨"RangeSchedulerModel", "isUp", "(I)Z"⟩ ∈ GT := GT_sel (q := (⟨"RangeSchedulerModel", "isUp", "(I)Z"⟩, 5)) (List.mem_of_getElem? (i := 33) (by decide +kernel)) rfl
theorem ts_34 : Cond.selects "RangeSchedulerModel" ⟨"RangeSchedulerModel", "forgetLearner", "(I)V"⟩ ⟨"RangeSchedulerModel", "forgetLearner", "(I)V"⟩ ∈ GT := GT_sel (q := (⟨"RangeSchedulerModel", "forgetLearner", "(I)V"⟩, 5)) (List.mem_of_getElem? (i := 34) (by decide +kernel)) rfl
theorem ts_35 : Cond.selects "RangeSchedulerModel" ⟨"RangeSchedulerModel", "elect", "(I)V"⟩ ⟨"RangeSchedulerModel", "elect", "(I)V"⟩ ∈ GT := GT_sel (q := (⟨"RangeSchedulerModel", "elect", "(I)V"⟩, 5)) (List.mem_of_getElem? (i := 35) (by decide +kernel)) rfl
theorem ts_36 : Cond.selects "RangeSchedulerModel" ⟨"RangeSchedulerModel", "available", "(I)Z"⟩ ⟨"RangeSchedulerModel", "available", "(I)Z"⟩ ∈ GT := GT_sel (q := (⟨"RangeSchedulerModel", "available", "(I)Z"⟩, 5)) (List.mem_of_getElem? (i := 36) (by decide +kernel)) rfl
theorem ts_37 : Cond.selects "RangeSchedulerModel" ⟨"RangeSchedulerModel", "ups", "()I"⟩ ⟨"RangeSchedulerModel", "ups", "()I"⟩ ∈ GT := GT_sel (q := (⟨"RangeSchedulerModel", "ups", "()I"⟩, 5)) (List.mem_of_getElem? (i := 37) (by decide +kernel)) rfl
theorem ts_38 : Cond.selects "RangeSchedulerModel" ⟨"RangeSchedulerModel", "leads", "(II)I"⟩ ⟨"RangeSchedulerModel", "leads", "(II)I"⟩ ∈ GT := GT_sel (q := (⟨"RangeSchedulerModel", "leads", "(II)I"⟩, 5)) (List.mem_of_getElem? (i := 38) (by decide +kernel)) rfl
theorem ts_39 : Cond.selects "RangeSchedulerModel" ⟨"RangeSchedulerModel", "does", "(II)Z"⟩ ⟨"RangeSchedulerModel", "does", "(II)Z"⟩ ∈ GT := GT_sel (q := (⟨"RangeSchedulerModel", "does", "(II)Z"⟩, 5)) (List.mem_of_getElem? (i := 39) (by decide +kernel)) rfl
theorem ts_40 : Cond.selects "RangeSchedulerModel" ⟨"RangeSchedulerModel", "create", "(I)Z"⟩ ⟨"RangeSchedulerModel", "create", "(I)Z"⟩ ∈ GT := GT_sel (q := (⟨"RangeSchedulerModel", "create", "(I)Z"⟩, 5)) (List.mem_of_getElem? (i := 40) (by decide +kernel)) rfl
theorem ts_41 : Cond.selects "RangeSchedulerModel" ⟨"RangeSchedulerModel", "choose", "(II)I"⟩ ⟨"RangeSchedulerModel", "choose", "(II)I"⟩ ∈ GT := GT_sel (q := (⟨"RangeSchedulerModel", "choose", "(II)I"⟩, 5)) (List.mem_of_getElem? (i := 41) (by decide +kernel)) rfl
theorem ts_42 : Cond.selects "RangeSchedulerModel" ⟨"RangeSchedulerModel", "replicasOf", "(I)I"⟩ ⟨"RangeSchedulerModel", "replicasOf", "(I)I"⟩ ∈ GT := GT_sel (q := (⟨"RangeSchedulerModel", "replicasOf", "(I)I"⟩, 5)) (List.mem_of_getElem? (i := 42) (by decide +kernel)) rfl
theorem ts_43 : Cond.selects "RangeSchedulerModel" ⟨"RangeSchedulerModel", "isFresh", "(III)Z"⟩ ⟨"RangeSchedulerModel", "isFresh", "(III)Z"⟩ ∈ GT := GT_sel (q := (⟨"RangeSchedulerModel", "isFresh", "(III)Z"⟩, 5)) (List.mem_of_getElem? (i := 43) (by decide +kernel)) rfl
theorem ts_44 : Cond.selects "RangeSchedulerModel" ⟨"RangeSchedulerModel", "zone", "(I)I"⟩ ⟨"RangeSchedulerModel", "zone", "(I)I"⟩ ∈ GT := GT_sel (q := (⟨"RangeSchedulerModel", "zone", "(I)I"⟩, 5)) (List.mem_of_getElem? (i := 44) (by decide +kernel)) rfl
theorem ts_45 : Cond.selects "RangeSchedulerModel" ⟨"RangeSchedulerModel", "repair", "(I)Z"⟩ ⟨"RangeSchedulerModel", "repair", "(I)Z"⟩ ∈ GT := GT_sel (q := (⟨"RangeSchedulerModel", "repair", "(I)Z"⟩, 5)) (List.mem_of_getElem? (i := 45) (by decide +kernel)) rfl
theorem ts_46 : Cond.selects "RangeSchedulerModel" ⟨"RangeSchedulerModel", "learn", "(III)V"⟩ ⟨"RangeSchedulerModel", "learn", "(III)V"⟩ ∈ GT := GT_sel (q := (⟨"RangeSchedulerModel", "learn", "(III)V"⟩, 5)) (List.mem_of_getElem? (i := 46) (by decide +kernel)) rfl
theorem ts_47 : Cond.selects "RangeSchedulerModel" ⟨"RangeSchedulerModel", "all", "(II)I"⟩ ⟨"RangeSchedulerModel", "all", "(II)I"⟩ ∈ GT := GT_sel (q := (⟨"RangeSchedulerModel", "all", "(II)I"⟩, 5)) (List.mem_of_getElem? (i := 47) (by decide +kernel)) rfl
theorem ts_48 : Cond.selects "RangeSchedulerModel" ⟨"RangeSchedulerModel", "below", "(III)I"⟩ ⟨"RangeSchedulerModel", "below", "(III)I"⟩ ∈ GT := GT_sel (q := (⟨"RangeSchedulerModel", "below", "(III)I"⟩, 5)) (List.mem_of_getElem? (i := 48) (by decide +kernel)) rfl
theorem ts_49 : Cond.selects "RangeSchedulerModel" ⟨"RangeSchedulerModel", "isIn", "(II)Z"⟩ ⟨"RangeSchedulerModel", "isIn", "(II)Z"⟩ ∈ GT := GT_sel (q := (⟨"RangeSchedulerModel", "isIn", "(II)Z"⟩, 5)) (List.mem_of_getElem? (i := 49) (by decide +kernel)) rfl
theorem ts_50 : Cond.selects "RangeSchedulerModel" ⟨"RangeSchedulerModel", "end", "(I)I"⟩ ⟨"RangeSchedulerModel", "end", "(I)I"⟩ ∈ GT := GT_sel (q := (⟨"RangeSchedulerModel", "end", "(I)I"⟩, 5)) (List.mem_of_getElem? (i := 50) (by decide +kernel)) rfl
theorem ts_51 : Cond.selects "RangeSchedulerModel" ⟨"RangeSchedulerModel", "spread", "(I)Z"⟩ ⟨"RangeSchedulerModel", "spread", "(I)Z"⟩ ∈ GT := GT_sel (q := (⟨"RangeSchedulerModel", "spread", "(I)Z"⟩, 5)) (List.mem_of_getElem? (i := 51) (by decide +kernel)) rfl
theorem ts_52 : Cond.selects "RangeSchedulerModel" ⟨"RangeSchedulerModel", "isWhole", "(I)Z"⟩ ⟨"RangeSchedulerModel", "isWhole", "(I)Z"⟩ ∈ GT := GT_sel (q := (⟨"RangeSchedulerModel", "isWhole", "(I)Z"⟩, 5)) (List.mem_of_getElem? (i := 52) (by decide +kernel)) rfl
theorem ts_53 : Cond.selects "RangeSchedulerModel" ⟨"RangeSchedulerModel", "splitBy", "(II)Z"⟩ ⟨"RangeSchedulerModel", "splitBy", "(II)Z"⟩ ∈ GT := GT_sel (q := (⟨"RangeSchedulerModel", "splitBy", "(II)Z"⟩, 5)) (List.mem_of_getElem? (i := 53) (by decide +kernel)) rfl
theorem ts_54 : Cond.selects "RangeSchedulerModel" ⟨"RangeSchedulerModel", "splitKeyOf", "(II)I"⟩ ⟨"RangeSchedulerModel", "splitKeyOf", "(II)I"⟩ ∈ GT := GT_sel (q := (⟨"RangeSchedulerModel", "splitKeyOf", "(II)I"⟩, 5)) (List.mem_of_getElem? (i := 54) (by decide +kernel)) rfl
theorem ts_55 : Cond.selects "RangeSchedulerModel" ⟨"RangeSchedulerModel", "split", "(II)V"⟩ ⟨"RangeSchedulerModel", "split", "(II)V"⟩ ∈ GT := GT_sel (q := (⟨"RangeSchedulerModel", "split", "(II)V"⟩, 5)) (List.mem_of_getElem? (i := 55) (by decide +kernel)) rfl
theorem ts_56 : Cond.selects "RangeSchedulerModel" ⟨"RangeSchedulerModel", "mergeNext", "(I)Z"⟩ ⟨"RangeSchedulerModel", "mergeNext", "(I)Z"⟩ ∈ GT := GT_sel (q := (⟨"RangeSchedulerModel", "mergeNext", "(I)Z"⟩, 5)) (List.mem_of_getElem? (i := 56) (by decide +kernel)) rfl
theorem ts_57 : Cond.selects "RangeSchedulerModel" ⟨"RangeSchedulerModel", "isCold", "(I)Z"⟩ ⟨"RangeSchedulerModel", "isCold", "(I)Z"⟩ ∈ GT := GT_sel (q := (⟨"RangeSchedulerModel", "isCold", "(I)Z"⟩, 5)) (List.mem_of_getElem? (i := 57) (by decide +kernel)) rfl
theorem ts_58 : Cond.selects "RangeSchedulerModel" ⟨"RangeSchedulerModel", "mergeNextInto", "(I)V"⟩ ⟨"RangeSchedulerModel", "mergeNextInto", "(I)V"⟩ ∈ GT := GT_sel (q := (⟨"RangeSchedulerModel", "mergeNextInto", "(I)V"⟩, 5)) (List.mem_of_getElem? (i := 58) (by decide +kernel)) rfl
theorem ts_59 : Cond.selects "RangeSchedulerModel" ⟨"RangeSchedulerModel", "shiftLeader", "(I)Z"⟩ ⟨"RangeSchedulerModel", "shiftLeader", "(I)Z"⟩ ∈ GT := GT_sel (q := (⟨"RangeSchedulerModel", "shiftLeader", "(I)Z"⟩, 5)) (List.mem_of_getElem? (i := 59) (by decide +kernel)) rfl
theorem ts_60 : Cond.selects "RangeSchedulerModel" ⟨"RangeSchedulerModel", "shiftReplica", "(I)Z"⟩ ⟨"RangeSchedulerModel", "shiftReplica", "(I)Z"⟩ ∈ GT := GT_sel (q := (⟨"RangeSchedulerModel", "shiftReplica", "(I)Z"⟩, 5)) (List.mem_of_getElem? (i := 60) (by decide +kernel)) rfl
theorem ts_61 : Cond.selects "RangeSchedulerModel" ⟨"RangeSchedulerModel", "hasLearner", "()Z"⟩ ⟨"RangeSchedulerModel", "hasLearner", "()Z"⟩ ∈ GT := GT_sel (q := (⟨"RangeSchedulerModel", "hasLearner", "()Z"⟩, 5)) (List.mem_of_getElem? (i := 61) (by decide +kernel)) rfl
theorem ts_62 : Cond.selects "RangeSchedulerModel" ⟨"RangeSchedulerModel", "isNode", "(I)Z"⟩ ⟨"RangeSchedulerModel", "isNode", "(I)Z"⟩ ∈ GT := GT_sel (q := (⟨"RangeSchedulerModel", "isNode", "(I)Z"⟩, 5)) (List.mem_of_getElem? (i := 62) (by decide +kernel)) rfl
theorem ts_63 : Cond.selects "RangeSchedulerModel" ⟨"RangeSchedulerModel", "goUp", "()V"⟩ ⟨"RangeSchedulerModel", "goUp", "()V"⟩ ∈ GT := GT_sel (q := (⟨"RangeSchedulerModel", "goUp", "()V"⟩, 5)) (List.mem_of_getElem? (i := 63) (by decide +kernel)) rfl
theorem ts_64 : Cond.selects "RangeSchedulerModel" ⟨"RangeSchedulerModel", "goDown", "(I)V"⟩ ⟨"RangeSchedulerModel", "goDown", "(I)V"⟩ ∈ GT := GT_sel (q := (⟨"RangeSchedulerModel", "goDown", "(I)V"⟩, 5)) (List.mem_of_getElem? (i := 64) (by decide +kernel)) rfl
theorem ts_65 : Cond.selects "RangeSchedulerModel" ⟨"RangeSchedulerModel", "change", "(II)I"⟩ ⟨"RangeSchedulerModel", "change", "(II)I"⟩ ∈ GT := GT_sel (q := (⟨"RangeSchedulerModel", "change", "(II)I"⟩, 5)) (List.mem_of_getElem? (i := 65) (by decide +kernel)) rfl
theorem ts_66 : Cond.selects "RangeSchedulerModel" ⟨"RangeSchedulerModel", "placeOf", "(I)I"⟩ ⟨"RangeSchedulerModel", "placeOf", "(I)I"⟩ ∈ GT := GT_sel (q := (⟨"RangeSchedulerModel", "placeOf", "(I)I"⟩, 5)) (List.mem_of_getElem? (i := 66) (by decide +kernel)) rfl
theorem ts_67 : Cond.selects "RangeSchedulerModel" ⟨"RangeSchedulerModel", "rangeAt", "(I)I"⟩ ⟨"RangeSchedulerModel", "rangeAt", "(I)I"⟩ ∈ GT := GT_sel (q := (⟨"RangeSchedulerModel", "rangeAt", "(I)I"⟩, 5)) (List.mem_of_getElem? (i := 67) (by decide +kernel)) rfl
theorem ts_68 : Cond.selects "RangeSchedulerModel" ⟨"RangeSchedulerModel", "isRange", "(I)Z"⟩ ⟨"RangeSchedulerModel", "isRange", "(I)Z"⟩ ∈ GT := GT_sel (q := (⟨"RangeSchedulerModel", "isRange", "(I)Z"⟩, 5)) (List.mem_of_getElem? (i := 68) (by decide +kernel)) rfl
theorem ts_69 : Cond.selects "RangeSchedulerModel" ⟨"RangeSchedulerModel", "learnerOf", "(I)I"⟩ ⟨"RangeSchedulerModel", "learnerOf", "(I)I"⟩ ∈ GT := GT_sel (q := (⟨"RangeSchedulerModel", "learnerOf", "(I)I"⟩, 5)) (List.mem_of_getElem? (i := 69) (by decide +kernel)) rfl
theorem ts_70 : Cond.selects "RangeSchedulerModel" ⟨"RangeSchedulerModel", "add", "(I)V"⟩ ⟨"RangeSchedulerModel", "add", "(I)V"⟩ ∈ GT := GT_sel (q := (⟨"RangeSchedulerModel", "add", "(I)V"⟩, 5)) (List.mem_of_getElem? (i := 70) (by decide +kernel)) rfl
theorem inX0 : ∀ w ∈ wsX00, w ∈ GT := by
  have h : ∀ w ∈ wsX00, w ∈ tables_1 ∧ goodWord w = true := by decide +kernel
  exact fun w hw => GT_of (h w hw).1 (h w hw).2
theorem inX1 : ∀ w ∈ wsX10, w ∈ GT := by
  have h : ∀ w ∈ wsX10, w ∈ tables_1 ∧ goodWord w = true := by decide +kernel
  exact fun w hw => GT_of (h w hw).1 (h w hw).2
theorem inX2 : ∀ w ∈ wsX20, w ∈ GT := by
  have h : ∀ w ∈ wsX20, w ∈ tables_1 ∧ goodWord w = true := by decide +kernel
  exact fun w hw => GT_of (h w hw).1 (h w hw).2
theorem inX3 : ∀ w ∈ wsX30, w ∈ GT := by
  have h : ∀ w ∈ wsX30, w ∈ tables_1 ∧ goodWord w = true := by decide +kernel
  exact fun w hw => GT_of (h w hw).1 (h w hw).2
theorem inX4 : ∀ w ∈ wsX40, w ∈ GT := by
  have h : ∀ w ∈ wsX40, w ∈ tables_1 ∧ goodWord w = true := by decide +kernel
  exact fun w hw => GT_of (h w hw).1 (h w hw).2
theorem inX5 : ∀ w ∈ wsX50, w ∈ GT := by
  have h : ∀ w ∈ wsX50, w ∈ tables_1 ∧ goodWord w = true := by decide +kernel
  exact fun w hw => GT_of (h w hw).1 (h w hw).2
theorem inX6 : ∀ w ∈ wsX60, w ∈ GT := by
  have h : ∀ w ∈ wsX60, w ∈ tables_1 ∧ goodWord w = true := by decide +kernel
  exact fun w hw => GT_of (h w hw).1 (h w hw).2
theorem inX7 : ∀ w ∈ wsX70, w ∈ GT := by
  have h : ∀ w ∈ wsX70, w ∈ tables_1 ∧ goodWord w = true := by decide +kernel
  exact fun w hw => GT_of (h w hw).1 (h w hw).2
theorem inX8 : ∀ w ∈ wsX80, w ∈ GT := by
  have h : ∀ w ∈ wsX80, w ∈ tables_1 ∧ goodWord w = true := by decide +kernel
  exact fun w hw => GT_of (h w hw).1 (h w hw).2
theorem inX9 : ∀ w ∈ wsX90, w ∈ GT := by
  have h : ∀ w ∈ wsX90, w ∈ tables_1 ∧ goodWord w = true := by decide +kernel
  exact fun w hw => GT_of (h w hw).1 (h w hw).2

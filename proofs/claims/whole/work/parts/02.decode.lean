theorem dX0_init_0 : decode cX0_init 0 = .ok (.aload_n 0, 1) := by decide +kernel
theorem dX0_init_1 : decode cX0_init 1 = .ok (.invokespecial 3, 3) := by decide +kernel
theorem dX0_init_4 : decode cX0_init 4 = .ok (.aload_n 0, 1) := by decide +kernel
theorem dX0_init_5 : decode cX0_init 5 = .ok (.new 9, 3) := by decide +kernel
theorem dX0_init_8 : decode cX0_init 8 = .ok (.dup, 1) := by decide +kernel
theorem dX0_init_9 : decode cX0_init 9 = .ok (.invokespecial 11, 3) := by decide +kernel
theorem dX0_init_12 : decode cX0_init 12 = .ok (.putfield 12, 3) := by decide +kernel
theorem dX0_init_15 : decode cX0_init 15 = .ok (.aload_n 0, 1) := by decide +kernel
theorem dX0_init_16 : decode cX0_init 16 = .ok (.new 18, 3) := by decide +kernel
theorem dX0_init_19 : decode cX0_init 19 = .ok (.dup, 1) := by decide +kernel
theorem dX0_init_20 : decode cX0_init 20 = .ok (.invokespecial 20, 3) := by decide +kernel
theorem dX0_init_23 : decode cX0_init 23 = .ok (.putfield 21, 3) := by decide +kernel
theorem dX0_init_26 : decode cX0_init 26 = .ok (.aload_n 0, 1) := by decide +kernel
theorem dX0_init_27 : decode cX0_init 27 = .ok (.new 25, 3) := by decide +kernel
theorem dX0_init_30 : decode cX0_init 30 = .ok (.dup, 1) := by decide +kernel
theorem dX0_init_31 : decode cX0_init 31 = .ok (.invokespecial 27, 3) := by decide +kernel
theorem dX0_init_34 : decode cX0_init 34 = .ok (.putfield 28, 3) := by decide +kernel
theorem dX0_init_37 : decode cX0_init 37 = .ok (.aload_n 0, 1) := by decide +kernel
theorem dX0_init_38 : decode cX0_init 38 = .ok (.new 32, 3) := by decide +kernel
theorem dX0_init_41 : decode cX0_init 41 = .ok (.dup, 1) := by decide +kernel
theorem dX0_init_42 : decode cX0_init 42 = .ok (.invokespecial 34, 3) := by decide +kernel
theorem dX0_init_45 : decode cX0_init 45 = .ok (.putfield 35, 3) := by decide +kernel
theorem dX0_init_48 : decode cX0_init 48 = .ok (.aload_n 0, 1) := by decide +kernel
theorem dX0_init_49 : decode cX0_init 49 = .ok (.new 39, 3) := by decide +kernel
theorem dX0_init_52 : decode cX0_init 52 = .ok (.dup, 1) := by decide +kernel
theorem dX0_init_53 : decode cX0_init 53 = .ok (.invokespecial 41, 3) := by decide +kernel
theorem dX0_init_56 : decode cX0_init 56 = .ok (.putfield 42, 3) := by decide +kernel
theorem dX0_init_59 : decode cX0_init 59 = .ok (.aload_n 0, 1) := by decide +kernel
theorem dX0_init_60 : decode cX0_init 60 = .ok (.bipush 9, 2) := by decide +kernel
theorem dX0_init_62 : decode cX0_init 62 = .ok (.newarray .int, 2) := by decide +kernel
theorem dX0_init_64 : decode cX0_init 64 = .ok (.putfield 46, 3) := by decide +kernel
theorem dX0_init_67 : decode cX0_init 67 = .ok (.return_, 1) := by decide +kernel
theorem dX0_rangeSize_0 : decode cX0_rangeSize 0 = .ok (.aload_n 0, 1) := by decide +kernel
theorem dX0_rangeSize_1 : decode cX0_rangeSize 1 = .ok (.getfield 35, 3) := by decide +kernel
theorem dX0_rangeSize_4 : decode cX0_rangeSize 4 = .ok (.aload_n 0, 1) := by decide +kernel
theorem dX0_rangeSize_5 : decode cX0_rangeSize 5 = .ok (.getfield 28, 3) := by decide +kernel
theorem dX0_rangeSize_8 : decode cX0_rangeSize 8 = .ok (.getfield 50, 3) := by decide +kernel
theorem dX0_rangeSize_11 : decode cX0_rangeSize 11 = .ok (.iload_n 1, 1) := by decide +kernel
theorem dX0_rangeSize_12 : decode cX0_rangeSize 12 = .ok (.iaload, 1) := by decide +kernel
theorem dX0_rangeSize_13 : decode cX0_rangeSize 13 = .ok (.aload_n 0, 1) := by decide +kernel
theorem dX0_rangeSize_14 : decode cX0_rangeSize 14 = .ok (.getfield 28, 3) := by decide +kernel
theorem dX0_rangeSize_17 : decode cX0_rangeSize 17 = .ok (.iload_n 1, 1) := by decide +kernel
theorem dX0_rangeSize_18 : decode cX0_rangeSize 18 = .ok (.invokevirtual 53, 3) := by decide +kernel
theorem dX0_rangeSize_21 : decode cX0_rangeSize 21 = .ok (.invokevirtual 57, 3) := by decide +kernel
theorem dX0_rangeSize_24 : decode cX0_rangeSize 24 = .ok (.ireturn, 1) := by decide +kernel
theorem dX0_rangeLoad_0 : decode cX0_rangeLoad 0 = .ok (.aload_n 0, 1) := by decide +kernel
theorem dX0_rangeLoad_1 : decode cX0_rangeLoad 1 = .ok (.getfield 42, 3) := by decide +kernel
theorem dX0_rangeLoad_4 : decode cX0_rangeLoad 4 = .ok (.aload_n 0, 1) := by decide +kernel
theorem dX0_rangeLoad_5 : decode cX0_rangeLoad 5 = .ok (.getfield 28, 3) := by decide +kernel
theorem dX0_rangeLoad_8 : decode cX0_rangeLoad 8 = .ok (.getfield 50, 3) := by decide +kernel
theorem dX0_rangeLoad_11 : decode cX0_rangeLoad 11 = .ok (.iload_n 1, 1) := by decide +kernel
theorem dX0_rangeLoad_12 : decode cX0_rangeLoad 12 = .ok (.iaload, 1) := by decide +kernel
theorem dX0_rangeLoad_13 : decode cX0_rangeLoad 13 = .ok (.aload_n 0, 1) := by decide +kernel
theorem dX0_rangeLoad_14 : decode cX0_rangeLoad 14 = .ok (.getfield 28, 3) := by decide +kernel
theorem dX0_rangeLoad_17 : decode cX0_rangeLoad 17 = .ok (.iload_n 1, 1) := by decide +kernel
theorem dX0_rangeLoad_18 : decode cX0_rangeLoad 18 = .ok (.invokevirtual 53, 3) := by decide +kernel
theorem dX0_rangeLoad_21 : decode cX0_rangeLoad 21 = .ok (.invokevirtual 61, 3) := by decide +kernel
theorem dX0_rangeLoad_24 : decode cX0_rangeLoad 24 = .ok (.ireturn, 1) := by decide +kernel
theorem dX0_sizeSplitKey_0 : decode cX0_sizeSplitKey 0 = .ok (.aload_n 0, 1) := by decide +kernel
theorem dX0_sizeSplitKey_1 : decode cX0_sizeSplitKey 1 = .ok (.getfield 35, 3) := by decide +kernel
theorem dX0_sizeSplitKey_4 : decode cX0_sizeSplitKey 4 = .ok (.aload_n 0, 1) := by decide +kernel
theorem dX0_sizeSplitKey_5 : decode cX0_sizeSplitKey 5 = .ok (.getfield 28, 3) := by decide +kernel
theorem dX0_sizeSplitKey_8 : decode cX0_sizeSplitKey 8 = .ok (.getfield 50, 3) := by decide +kernel
theorem dX0_sizeSplitKey_11 : decode cX0_sizeSplitKey 11 = .ok (.iload_n 1, 1) := by decide +kernel
theorem dX0_sizeSplitKey_12 : decode cX0_sizeSplitKey 12 = .ok (.iaload, 1) := by decide +kernel
theorem dX0_sizeSplitKey_13 : decode cX0_sizeSplitKey 13 = .ok (.aload_n 0, 1) := by decide +kernel
theorem dX0_sizeSplitKey_14 : decode cX0_sizeSplitKey 14 = .ok (.getfield 28, 3) := by decide +kernel
theorem dX0_sizeSplitKey_17 : decode cX0_sizeSplitKey 17 = .ok (.iload_n 1, 1) := by decide +kernel
theorem dX0_sizeSplitKey_18 : decode cX0_sizeSplitKey 18 = .ok (.invokevirtual 53, 3) := by decide +kernel
theorem dX0_sizeSplitKey_21 : decode cX0_sizeSplitKey 21 = .ok (.invokevirtual 64, 3) := by decide +kernel
theorem dX0_sizeSplitKey_24 : decode cX0_sizeSplitKey 24 = .ok (.ireturn, 1) := by decide +kernel
theorem dX0_loadSplitKey_0 : decode cX0_loadSplitKey 0 = .ok (.aload_n 0, 1) := by decide +kernel
theorem dX0_loadSplitKey_1 : decode cX0_loadSplitKey 1 = .ok (.getfield 42, 3) := by decide +kernel
theorem dX0_loadSplitKey_4 : decode cX0_loadSplitKey 4 = .ok (.aload_n 0, 1) := by decide +kernel
theorem dX0_loadSplitKey_5 : decode cX0_loadSplitKey 5 = .ok (.getfield 28, 3) := by decide +kernel
theorem dX0_loadSplitKey_8 : decode cX0_loadSplitKey 8 = .ok (.getfield 50, 3) := by decide +kernel
theorem dX0_loadSplitKey_11 : decode cX0_loadSplitKey 11 = .ok (.iload_n 1, 1) := by decide +kernel
theorem dX0_loadSplitKey_12 : decode cX0_loadSplitKey 12 = .ok (.iaload, 1) := by decide +kernel
theorem dX0_loadSplitKey_13 : decode cX0_loadSplitKey 13 = .ok (.aload_n 0, 1) := by decide +kernel
theorem dX0_loadSplitKey_14 : decode cX0_loadSplitKey 14 = .ok (.getfield 28, 3) := by decide +kernel
theorem dX0_loadSplitKey_17 : decode cX0_loadSplitKey 17 = .ok (.iload_n 1, 1) := by decide +kernel
theorem dX0_loadSplitKey_18 : decode cX0_loadSplitKey 18 = .ok (.invokevirtual 53, 3) := by decide +kernel
theorem dX0_loadSplitKey_21 : decode cX0_loadSplitKey 21 = .ok (.invokevirtual 67, 3) := by decide +kernel
theorem dX0_loadSplitKey_24 : decode cX0_loadSplitKey 24 = .ok (.ireturn, 1) := by decide +kernel
theorem dX0_votersUp_0 : decode cX0_votersUp 0 = .ok (.aload_n 0, 1) := by decide +kernel
theorem dX0_votersUp_1 : decode cX0_votersUp 1 = .ok (.getfield 28, 3) := by decide +kernel
theorem dX0_votersUp_4 : decode cX0_votersUp 4 = .ok (.getfield 68, 3) := by decide +kernel
theorem dX0_votersUp_7 : decode cX0_votersUp 7 = .ok (.iload_n 1, 1) := by decide +kernel
theorem dX0_votersUp_8 : decode cX0_votersUp 8 = .ok (.iaload, 1) := by decide +kernel
theorem dX0_votersUp_9 : decode cX0_votersUp 9 = .ok (.aload_n 0, 1) := by decide +kernel
theorem dX0_votersUp_10 : decode cX0_votersUp 10 = .ok (.getfield 21, 3) := by decide +kernel
theorem dX0_votersUp_13 : decode cX0_votersUp 13 = .ok (.getfield 71, 3) := by decide +kernel
theorem dX0_votersUp_16 : decode cX0_votersUp 16 = .ok (.iand, 1) := by decide +kernel
theorem dX0_votersUp_17 : decode cX0_votersUp 17 = .ok (.ireturn, 1) := by decide +kernel
theorem dX0_votersDown_0 : decode cX0_votersDown 0 = .ok (.aload_n 0, 1) := by decide +kernel
theorem dX0_votersDown_1 : decode cX0_votersDown 1 = .ok (.getfield 28, 3) := by decide +kernel
theorem dX0_votersDown_4 : decode cX0_votersDown 4 = .ok (.getfield 68, 3) := by decide +kernel
theorem dX0_votersDown_7 : decode cX0_votersDown 7 = .ok (.iload_n 1, 1) := by decide +kernel
theorem dX0_votersDown_8 : decode cX0_votersDown 8 = .ok (.iaload, 1) := by decide +kernel
theorem dX0_votersDown_9 : decode cX0_votersDown 9 = .ok (.aload_n 0, 1) := by decide +kernel
theorem dX0_votersDown_10 : decode cX0_votersDown 10 = .ok (.getfield 21, 3) := by decide +kernel
theorem dX0_votersDown_13 : decode cX0_votersDown 13 = .ok (.getfield 71, 3) := by decide +kernel
theorem dX0_votersDown_16 : decode cX0_votersDown 16 = .ok (.iconst (-1), 1) := by decide +kernel
theorem dX0_votersDown_17 : decode cX0_votersDown 17 = .ok (.ixor, 1) := by decide +kernel
theorem dX0_votersDown_18 : decode cX0_votersDown 18 = .ok (.iand, 1) := by decide +kernel
theorem dX0_votersDown_19 : decode cX0_votersDown 19 = .ok (.ireturn, 1) := by decide +kernel
theorem dX0_hasQuorum_0 : decode cX0_hasQuorum 0 = .ok (.iconst 2, 1) := by decide +kernel
theorem dX0_hasQuorum_1 : decode cX0_hasQuorum 1 = .ok (.aload_n 0, 1) := by decide +kernel
theorem dX0_hasQuorum_2 : decode cX0_hasQuorum 2 = .ok (.iload_n 1, 1) := by decide +kernel
theorem dX0_hasQuorum_3 : decode cX0_hasQuorum 3 = .ok (.invokevirtual 75, 3) := by decide +kernel
theorem dX0_hasQuorum_6 : decode cX0_hasQuorum 6 = .ok (.invokestatic 78, 3) := by decide +kernel
theorem dX0_hasQuorum_9 : decode cX0_hasQuorum 9 = .ok (.imul, 1) := by decide +kernel
theorem dX0_hasQuorum_10 : decode cX0_hasQuorum 10 = .ok (.aload_n 0, 1) := by decide +kernel
theorem dX0_hasQuorum_11 : decode cX0_hasQuorum 11 = .ok (.getfield 28, 3) := by decide +kernel
theorem dX0_hasQuorum_14 : decode cX0_hasQuorum 14 = .ok (.getfield 68, 3) := by decide +kernel
theorem dX0_hasQuorum_17 : decode cX0_hasQuorum 17 = .ok (.iload_n 1, 1) := by decide +kernel
theorem dX0_hasQuorum_18 : decode cX0_hasQuorum 18 = .ok (.iaload, 1) := by decide +kernel
theorem dX0_hasQuorum_19 : decode cX0_hasQuorum 19 = .ok (.invokestatic 78, 3) := by decide +kernel
theorem dX0_hasQuorum_22 : decode cX0_hasQuorum 22 = .ok (.if_icmp .le 7, 3) := by decide +kernel
theorem dX0_hasQuorum_25 : decode cX0_hasQuorum 25 = .ok (.iconst 1, 1) := by decide +kernel
theorem dX0_hasQuorum_26 : decode cX0_hasQuorum 26 = .ok (.goto 4, 3) := by decide +kernel
theorem dX0_hasQuorum_29 : decode cX0_hasQuorum 29 = .ok (.iconst 0, 1) := by decide +kernel
theorem dX0_hasQuorum_30 : decode cX0_hasQuorum 30 = .ok (.ireturn, 1) := by decide +kernel
theorem dX0_countAvailable_0 : decode cX0_countAvailable 0 = .ok (.iconst 0, 1) := by decide +kernel
theorem dX0_countAvailable_1 : decode cX0_countAvailable 1 = .ok (.istore_n 1, 1) := by decide +kernel
theorem dX0_countAvailable_2 : decode cX0_countAvailable 2 = .ok (.iconst 0, 1) := by decide +kernel
theorem dX0_countAvailable_3 : decode cX0_countAvailable 3 = .ok (.istore_n 2, 1) := by decide +kernel
theorem dX0_countAvailable_4 : decode cX0_countAvailable 4 = .ok (.iload_n 2, 1) := by decide +kernel
theorem dX0_countAvailable_5 : decode cX0_countAvailable 5 = .ok (.aload_n 0, 1) := by decide +kernel
theorem dX0_countAvailable_6 : decode cX0_countAvailable 6 = .ok (.getfield 28, 3) := by decide +kernel
theorem dX0_countAvailable_9 : decode cX0_countAvailable 9 = .ok (.getfield 83, 3) := by decide +kernel
theorem dX0_countAvailable_12 : decode cX0_countAvailable 12 = .ok (.if_icmp .ge 20, 3) := by decide +kernel
theorem dX0_countAvailable_15 : decode cX0_countAvailable 15 = .ok (.aload_n 0, 1) := by decide +kernel
theorem dX0_countAvailable_16 : decode cX0_countAvailable 16 = .ok (.iload_n 2, 1) := by decide +kernel
theorem dX0_countAvailable_17 : decode cX0_countAvailable 17 = .ok (.invokevirtual 86, 3) := by decide +kernel
theorem dX0_countAvailable_20 : decode cX0_countAvailable 20 = .ok (.ifCond .eq 6, 3) := by decide +kernel
theorem dX0_countAvailable_23 : decode cX0_countAvailable 23 = .ok (.iinc 1 1, 3) := by decide +kernel
theorem dX0_countAvailable_26 : decode cX0_countAvailable 26 = .ok (.iinc 2 1, 3) := by decide +kernel
theorem dX0_countAvailable_29 : decode cX0_countAvailable 29 = .ok (.goto (-25), 3) := by decide +kernel
theorem dX0_countAvailable_32 : decode cX0_countAvailable 32 = .ok (.iload_n 1, 1) := by decide +kernel
theorem dX0_countAvailable_33 : decode cX0_countAvailable 33 = .ok (.ireturn, 1) := by decide +kernel
theorem dX0_leastLeading_0 : decode cX0_leastLeading 0 = .ok (.iconst (-1), 1) := by decide +kernel
theorem dX0_leastLeading_1 : decode cX0_leastLeading 1 = .ok (.istore_n 2, 1) := by decide +kernel
theorem dX0_leastLeading_2 : decode cX0_leastLeading 2 = .ok (.bipush 17, 2) := by decide +kernel
theorem dX0_leastLeading_4 : decode cX0_leastLeading 4 = .ok (.istore_n 3, 1) := by decide +kernel
theorem dX0_leastLeading_5 : decode cX0_leastLeading 5 = .ok (.iconst 0, 1) := by decide +kernel
theorem dX0_leastLeading_6 : decode cX0_leastLeading 6 = .ok (.istore 4, 2) := by decide +kernel
theorem dX0_leastLeading_8 : decode cX0_leastLeading 8 = .ok (.iload 4, 2) := by decide +kernel
theorem dX0_leastLeading_10 : decode cX0_leastLeading 10 = .ok (.aload_n 0, 1) := by decide +kernel
theorem dX0_leastLeading_11 : decode cX0_leastLeading 11 = .ok (.getfield 21, 3) := by decide +kernel
theorem dX0_leastLeading_14 : decode cX0_leastLeading 14 = .ok (.getfield 90, 3) := by decide +kernel
theorem dX0_leastLeading_17 : decode cX0_leastLeading 17 = .ok (.if_icmp .ge 42, 3) := by decide +kernel
theorem dX0_leastLeading_20 : decode cX0_leastLeading 20 = .ok (.iload_n 1, 1) := by decide +kernel
theorem dX0_leastLeading_21 : decode cX0_leastLeading 21 = .ok (.iload 4, 2) := by decide +kernel
theorem dX0_leastLeading_23 : decode cX0_leastLeading 23 = .ok (.invokestatic 91, 3) := by decide +kernel
theorem dX0_leastLeading_26 : decode cX0_leastLeading 26 = .ok (.iand, 1) := by decide +kernel
theorem dX0_leastLeading_27 : decode cX0_leastLeading 27 = .ok (.ifCond .eq 26, 3) := by decide +kernel
theorem dX0_leastLeading_30 : decode cX0_leastLeading 30 = .ok (.aload_n 0, 1) := by decide +kernel
theorem dX0_leastLeading_31 : decode cX0_leastLeading 31 = .ok (.getfield 28, 3) := by decide +kernel
theorem dX0_leastLeading_34 : decode cX0_leastLeading 34 = .ok (.iload 4, 2) := by decide +kernel
theorem dX0_leastLeading_36 : decode cX0_leastLeading 36 = .ok (.invokevirtual 94, 3) := by decide +kernel
theorem dX0_leastLeading_39 : decode cX0_leastLeading 39 = .ok (.istore 5, 2) := by decide +kernel
theorem dX0_leastLeading_41 : decode cX0_leastLeading 41 = .ok (.iload 5, 2) := by decide +kernel
theorem dX0_leastLeading_43 : decode cX0_leastLeading 43 = .ok (.iload_n 3, 1) := by decide +kernel
theorem dX0_leastLeading_44 : decode cX0_leastLeading 44 = .ok (.if_icmp .ge 9, 3) := by decide +kernel
theorem dX0_leastLeading_47 : decode cX0_leastLeading 47 = .ok (.iload 4, 2) := by decide +kernel
theorem dX0_leastLeading_49 : decode cX0_leastLeading 49 = .ok (.istore_n 2, 1) := by decide +kernel
theorem dX0_leastLeading_50 : decode cX0_leastLeading 50 = .ok (.iload 5, 2) := by decide +kernel
theorem dX0_leastLeading_52 : decode cX0_leastLeading 52 = .ok (.istore_n 3, 1) := by decide +kernel
theorem dX0_leastLeading_53 : decode cX0_leastLeading 53 = .ok (.iinc 4 1, 3) := by decide +kernel
theorem dX0_leastLeading_56 : decode cX0_leastLeading 56 = .ok (.goto (-48), 3) := by decide +kernel
theorem dX0_leastLeading_59 : decode cX0_leastLeading 59 = .ok (.iload_n 2, 1) := by decide +kernel
theorem dX0_leastLeading_60 : decode cX0_leastLeading 60 = .ok (.ireturn, 1) := by decide +kernel
theorem dX0_elect_0 : decode cX0_elect 0 = .ok (.aload_n 0, 1) := by decide +kernel
theorem dX0_elect_1 : decode cX0_elect 1 = .ok (.getfield 28, 3) := by decide +kernel
theorem dX0_elect_4 : decode cX0_elect 4 = .ok (.getfield 97, 3) := by decide +kernel
theorem dX0_elect_7 : decode cX0_elect 7 = .ok (.iload_n 1, 1) := by decide +kernel
theorem dX0_elect_8 : decode cX0_elect 8 = .ok (.iconst (-1), 1) := by decide +kernel
theorem dX0_elect_9 : decode cX0_elect 9 = .ok (.iastore, 1) := by decide +kernel
theorem dX0_elect_10 : decode cX0_elect 10 = .ok (.aload_n 0, 1) := by decide +kernel
theorem dX0_elect_11 : decode cX0_elect 11 = .ok (.iload_n 1, 1) := by decide +kernel
theorem dX0_elect_12 : decode cX0_elect 12 = .ok (.invokevirtual 86, 3) := by decide +kernel
theorem dX0_elect_15 : decode cX0_elect 15 = .ok (.ifCond .eq 21, 3) := by decide +kernel
theorem dX0_elect_18 : decode cX0_elect 18 = .ok (.aload_n 0, 1) := by decide +kernel
theorem dX0_elect_19 : decode cX0_elect 19 = .ok (.getfield 28, 3) := by decide +kernel
theorem dX0_elect_22 : decode cX0_elect 22 = .ok (.getfield 97, 3) := by decide +kernel
theorem dX0_elect_25 : decode cX0_elect 25 = .ok (.iload_n 1, 1) := by decide +kernel
theorem dX0_elect_26 : decode cX0_elect 26 = .ok (.aload_n 0, 1) := by decide +kernel
theorem dX0_elect_27 : decode cX0_elect 27 = .ok (.aload_n 0, 1) := by decide +kernel
theorem dX0_elect_28 : decode cX0_elect 28 = .ok (.iload_n 1, 1) := by decide +kernel
theorem dX0_elect_29 : decode cX0_elect 29 = .ok (.invokevirtual 75, 3) := by decide +kernel
theorem dX0_elect_32 : decode cX0_elect 32 = .ok (.invokevirtual 100, 3) := by decide +kernel
theorem dX0_elect_35 : decode cX0_elect 35 = .ok (.iastore, 1) := by decide +kernel
theorem dX0_elect_36 : decode cX0_elect 36 = .ok (.return_, 1) := by decide +kernel
theorem dX0_bringUp_0 : decode cX0_bringUp 0 = .ok (.aload_n 0, 1) := by decide +kernel
theorem dX0_bringUp_1 : decode cX0_bringUp 1 = .ok (.getfield 21, 3) := by decide +kernel
theorem dX0_bringUp_4 : decode cX0_bringUp 4 = .ok (.dup, 1) := by decide +kernel
theorem dX0_bringUp_5 : decode cX0_bringUp 5 = .ok (.getfield 71, 3) := by decide +kernel
theorem dX0_bringUp_8 : decode cX0_bringUp 8 = .ok (.iload_n 1, 1) := by decide +kernel
theorem dX0_bringUp_9 : decode cX0_bringUp 9 = .ok (.invokestatic 91, 3) := by decide +kernel
theorem dX0_bringUp_12 : decode cX0_bringUp 12 = .ok (.ior, 1) := by decide +kernel
theorem dX0_bringUp_13 : decode cX0_bringUp 13 = .ok (.putfield 71, 3) := by decide +kernel
theorem dX0_bringUp_16 : decode cX0_bringUp 16 = .ok (.iconst 0, 1) := by decide +kernel
theorem dX0_bringUp_17 : decode cX0_bringUp 17 = .ok (.istore_n 2, 1) := by decide +kernel
theorem dX0_bringUp_18 : decode cX0_bringUp 18 = .ok (.iload_n 2, 1) := by decide +kernel
theorem dX0_bringUp_19 : decode cX0_bringUp 19 = .ok (.aload_n 0, 1) := by decide +kernel
theorem dX0_bringUp_20 : decode cX0_bringUp 20 = .ok (.getfield 28, 3) := by decide +kernel
theorem dX0_bringUp_23 : decode cX0_bringUp 23 = .ok (.getfield 83, 3) := by decide +kernel
theorem dX0_bringUp_26 : decode cX0_bringUp 26 = .ok (.if_icmp .ge 27, 3) := by decide +kernel
theorem dX0_bringUp_29 : decode cX0_bringUp 29 = .ok (.aload_n 0, 1) := by decide +kernel
theorem dX0_bringUp_30 : decode cX0_bringUp 30 = .ok (.getfield 28, 3) := by decide +kernel
theorem dX0_bringUp_33 : decode cX0_bringUp 33 = .ok (.getfield 97, 3) := by decide +kernel
theorem dX0_bringUp_36 : decode cX0_bringUp 36 = .ok (.iload_n 2, 1) := by decide +kernel
theorem dX0_bringUp_37 : decode cX0_bringUp 37 = .ok (.iaload, 1) := by decide +kernel
theorem dX0_bringUp_38 : decode cX0_bringUp 38 = .ok (.iconst (-1), 1) := by decide +kernel
theorem dX0_bringUp_39 : decode cX0_bringUp 39 = .ok (.if_icmp .ne 8, 3) := by decide +kernel
theorem dX0_bringUp_42 : decode cX0_bringUp 42 = .ok (.aload_n 0, 1) := by decide +kernel
theorem dX0_bringUp_43 : decode cX0_bringUp 43 = .ok (.iload_n 2, 1) := by decide +kernel
theorem dX0_bringUp_44 : decode cX0_bringUp 44 = .ok (.invokevirtual 103, 3) := by decide +kernel
theorem dX0_bringUp_47 : decode cX0_bringUp 47 = .ok (.iinc 2 1, 3) := by decide +kernel
theorem dX0_bringUp_50 : decode cX0_bringUp 50 = .ok (.goto (-32), 3) := by decide +kernel
theorem dX0_bringUp_53 : decode cX0_bringUp 53 = .ok (.return_, 1) := by decide +kernel
theorem dX0_takeDown_0 : decode cX0_takeDown 0 = .ok (.aload_n 0, 1) := by decide +kernel
theorem dX0_takeDown_1 : decode cX0_takeDown 1 = .ok (.getfield 21, 3) := by decide +kernel
theorem dX0_takeDown_4 : decode cX0_takeDown 4 = .ok (.dup, 1) := by decide +kernel
theorem dX0_takeDown_5 : decode cX0_takeDown 5 = .ok (.getfield 71, 3) := by decide +kernel
theorem dX0_takeDown_8 : decode cX0_takeDown 8 = .ok (.iload_n 1, 1) := by decide +kernel
theorem dX0_takeDown_9 : decode cX0_takeDown 9 = .ok (.invokestatic 91, 3) := by decide +kernel
theorem dX0_takeDown_12 : decode cX0_takeDown 12 = .ok (.iconst (-1), 1) := by decide +kernel
theorem dX0_takeDown_13 : decode cX0_takeDown 13 = .ok (.ixor, 1) := by decide +kernel
theorem dX0_takeDown_14 : decode cX0_takeDown 14 = .ok (.iand, 1) := by decide +kernel
theorem dX0_takeDown_15 : decode cX0_takeDown 15 = .ok (.putfield 71, 3) := by decide +kernel
theorem dX0_takeDown_18 : decode cX0_takeDown 18 = .ok (.iconst 0, 1) := by decide +kernel
theorem dX0_takeDown_19 : decode cX0_takeDown 19 = .ok (.istore_n 2, 1) := by decide +kernel
theorem dX0_takeDown_20 : decode cX0_takeDown 20 = .ok (.iload_n 2, 1) := by decide +kernel
theorem dX0_takeDown_21 : decode cX0_takeDown 21 = .ok (.aload_n 0, 1) := by decide +kernel
theorem dX0_takeDown_22 : decode cX0_takeDown 22 = .ok (.getfield 28, 3) := by decide +kernel
theorem dX0_takeDown_25 : decode cX0_takeDown 25 = .ok (.getfield 83, 3) := by decide +kernel
theorem dX0_takeDown_28 : decode cX0_takeDown 28 = .ok (.if_icmp .ge 30, 3) := by decide +kernel
theorem dX0_takeDown_31 : decode cX0_takeDown 31 = .ok (.aload_n 0, 1) := by decide +kernel
theorem dX0_takeDown_32 : decode cX0_takeDown 32 = .ok (.getfield 28, 3) := by decide +kernel
theorem dX0_takeDown_35 : decode cX0_takeDown 35 = .ok (.getfield 107, 3) := by decide +kernel
theorem dX0_takeDown_38 : decode cX0_takeDown 38 = .ok (.iload_n 2, 1) := by decide +kernel
theorem dX0_takeDown_39 : decode cX0_takeDown 39 = .ok (.iaload, 1) := by decide +kernel
theorem dX0_takeDown_40 : decode cX0_takeDown 40 = .ok (.iload_n 1, 1) := by decide +kernel
theorem dX0_takeDown_41 : decode cX0_takeDown 41 = .ok (.if_icmp .ne 11, 3) := by decide +kernel
theorem dX0_takeDown_44 : decode cX0_takeDown 44 = .ok (.aload_n 0, 1) := by decide +kernel
theorem dX0_takeDown_45 : decode cX0_takeDown 45 = .ok (.getfield 28, 3) := by decide +kernel
theorem dX0_takeDown_48 : decode cX0_takeDown 48 = .ok (.iload_n 2, 1) := by decide +kernel
theorem dX0_takeDown_49 : decode cX0_takeDown 49 = .ok (.invokevirtual 110, 3) := by decide +kernel
theorem dX0_takeDown_52 : decode cX0_takeDown 52 = .ok (.iinc 2 1, 3) := by decide +kernel
theorem dX0_takeDown_55 : decode cX0_takeDown 55 = .ok (.goto (-35), 3) := by decide +kernel
theorem dX0_takeDown_58 : decode cX0_takeDown 58 = .ok (.iconst 0, 1) := by decide +kernel
theorem dX0_takeDown_59 : decode cX0_takeDown 59 = .ok (.istore_n 2, 1) := by decide +kernel
theorem dX0_takeDown_60 : decode cX0_takeDown 60 = .ok (.iload_n 2, 1) := by decide +kernel
theorem dX0_takeDown_61 : decode cX0_takeDown 61 = .ok (.aload_n 0, 1) := by decide +kernel
theorem dX0_takeDown_62 : decode cX0_takeDown 62 = .ok (.getfield 28, 3) := by decide +kernel
theorem dX0_takeDown_65 : decode cX0_takeDown 65 = .ok (.getfield 83, 3) := by decide +kernel
theorem dX0_takeDown_68 : decode cX0_takeDown 68 = .ok (.if_icmp .ge 48, 3) := by decide +kernel
theorem dX0_takeDown_71 : decode cX0_takeDown 71 = .ok (.aload_n 0, 1) := by decide +kernel
theorem dX0_takeDown_72 : decode cX0_takeDown 72 = .ok (.iload_n 2, 1) := by decide +kernel
theorem dX0_takeDown_73 : decode cX0_takeDown 73 = .ok (.invokevirtual 86, 3) := by decide +kernel
theorem dX0_takeDown_76 : decode cX0_takeDown 76 = .ok (.ifCond .ne 16, 3) := by decide +kernel
theorem dX0_takeDown_79 : decode cX0_takeDown 79 = .ok (.aload_n 0, 1) := by decide +kernel
theorem dX0_takeDown_80 : decode cX0_takeDown 80 = .ok (.getfield 28, 3) := by decide +kernel
theorem dX0_takeDown_83 : decode cX0_takeDown 83 = .ok (.getfield 97, 3) := by decide +kernel
theorem dX0_takeDown_86 : decode cX0_takeDown 86 = .ok (.iload_n 2, 1) := by decide +kernel
theorem dX0_takeDown_87 : decode cX0_takeDown 87 = .ok (.iconst (-1), 1) := by decide +kernel
theorem dX0_takeDown_88 : decode cX0_takeDown 88 = .ok (.iastore, 1) := by decide +kernel
theorem dX0_takeDown_89 : decode cX0_takeDown 89 = .ok (.goto 21, 3) := by decide +kernel
theorem dX0_takeDown_92 : decode cX0_takeDown 92 = .ok (.aload_n 0, 1) := by decide +kernel
theorem dX0_takeDown_93 : decode cX0_takeDown 93 = .ok (.getfield 28, 3) := by decide +kernel
theorem dX0_takeDown_96 : decode cX0_takeDown 96 = .ok (.getfield 97, 3) := by decide +kernel
theorem dX0_takeDown_99 : decode cX0_takeDown 99 = .ok (.iload_n 2, 1) := by decide +kernel
theorem dX0_takeDown_100 : decode cX0_takeDown 100 = .ok (.iaload, 1) := by decide +kernel
theorem dX0_takeDown_101 : decode cX0_takeDown 101 = .ok (.iload_n 1, 1) := by decide +kernel
theorem dX0_takeDown_102 : decode cX0_takeDown 102 = .ok (.if_icmp .ne 8, 3) := by decide +kernel
theorem dX0_takeDown_105 : decode cX0_takeDown 105 = .ok (.aload_n 0, 1) := by decide +kernel
theorem dX0_takeDown_106 : decode cX0_takeDown 106 = .ok (.iload_n 2, 1) := by decide +kernel
theorem dX0_takeDown_107 : decode cX0_takeDown 107 = .ok (.invokevirtual 103, 3) := by decide +kernel
theorem dX0_takeDown_110 : decode cX0_takeDown 110 = .ok (.iinc 2 1, 3) := by decide +kernel
theorem dX0_takeDown_113 : decode cX0_takeDown 113 = .ok (.goto (-53), 3) := by decide +kernel
theorem dX0_takeDown_116 : decode cX0_takeDown 116 = .ok (.return_, 1) := by decide +kernel
theorem dX0_copyFrom_0 : decode cX0_copyFrom 0 = .ok (.aload_n 0, 1) := by decide +kernel
theorem dX0_copyFrom_1 : decode cX0_copyFrom 1 = .ok (.getfield 12, 3) := by decide +kernel
theorem dX0_copyFrom_4 : decode cX0_copyFrom 4 = .ok (.aload_n 1, 1) := by decide +kernel
theorem dX0_copyFrom_5 : decode cX0_copyFrom 5 = .ok (.getfield 12, 3) := by decide +kernel
theorem dX0_copyFrom_8 : decode cX0_copyFrom 8 = .ok (.invokevirtual 113, 3) := by decide +kernel
theorem dX0_copyFrom_11 : decode cX0_copyFrom 11 = .ok (.aload_n 0, 1) := by decide +kernel
theorem dX0_copyFrom_12 : decode cX0_copyFrom 12 = .ok (.getfield 21, 3) := by decide +kernel
theorem dX0_copyFrom_15 : decode cX0_copyFrom 15 = .ok (.aload_n 1, 1) := by decide +kernel
theorem dX0_copyFrom_16 : decode cX0_copyFrom 16 = .ok (.getfield 21, 3) := by decide +kernel
theorem dX0_copyFrom_19 : decode cX0_copyFrom 19 = .ok (.invokevirtual 117, 3) := by decide +kernel
theorem dX0_copyFrom_22 : decode cX0_copyFrom 22 = .ok (.aload_n 0, 1) := by decide +kernel
theorem dX0_copyFrom_23 : decode cX0_copyFrom 23 = .ok (.getfield 28, 3) := by decide +kernel
theorem dX0_copyFrom_26 : decode cX0_copyFrom 26 = .ok (.aload_n 1, 1) := by decide +kernel
theorem dX0_copyFrom_27 : decode cX0_copyFrom 27 = .ok (.getfield 28, 3) := by decide +kernel
theorem dX0_copyFrom_30 : decode cX0_copyFrom 30 = .ok (.invokevirtual 120, 3) := by decide +kernel
theorem dX0_copyFrom_33 : decode cX0_copyFrom 33 = .ok (.aload_n 0, 1) := by decide +kernel
theorem dX0_copyFrom_34 : decode cX0_copyFrom 34 = .ok (.getfield 35, 3) := by decide +kernel
theorem dX0_copyFrom_37 : decode cX0_copyFrom 37 = .ok (.aload_n 1, 1) := by decide +kernel
theorem dX0_copyFrom_38 : decode cX0_copyFrom 38 = .ok (.getfield 35, 3) := by decide +kernel
theorem dX0_copyFrom_41 : decode cX0_copyFrom 41 = .ok (.invokevirtual 123, 3) := by decide +kernel
theorem dX0_copyFrom_44 : decode cX0_copyFrom 44 = .ok (.aload_n 0, 1) := by decide +kernel
theorem dX0_copyFrom_45 : decode cX0_copyFrom 45 = .ok (.getfield 42, 3) := by decide +kernel
theorem dX0_copyFrom_48 : decode cX0_copyFrom 48 = .ok (.aload_n 1, 1) := by decide +kernel
theorem dX0_copyFrom_49 : decode cX0_copyFrom 49 = .ok (.getfield 42, 3) := by decide +kernel
theorem dX0_copyFrom_52 : decode cX0_copyFrom 52 = .ok (.invokevirtual 126, 3) := by decide +kernel
theorem dX0_copyFrom_55 : decode cX0_copyFrom 55 = .ok (.aload_n 1, 1) := by decide +kernel
theorem dX0_copyFrom_56 : decode cX0_copyFrom 56 = .ok (.getfield 46, 3) := by decide +kernel
theorem dX0_copyFrom_59 : decode cX0_copyFrom 59 = .ok (.aload_n 0, 1) := by decide +kernel
theorem dX0_copyFrom_60 : decode cX0_copyFrom 60 = .ok (.getfield 46, 3) := by decide +kernel
theorem dX0_copyFrom_63 : decode cX0_copyFrom 63 = .ok (.invokestatic 129, 3) := by decide +kernel
theorem dX0_copyFrom_66 : decode cX0_copyFrom 66 = .ok (.aload_n 0, 1) := by decide +kernel
theorem dX0_copyFrom_67 : decode cX0_copyFrom 67 = .ok (.aload_n 1, 1) := by decide +kernel
theorem dX0_copyFrom_68 : decode cX0_copyFrom 68 = .ok (.getfield 133, 3) := by decide +kernel
theorem dX0_copyFrom_71 : decode cX0_copyFrom 71 = .ok (.putfield 133, 3) := by decide +kernel
theorem dX0_copyFrom_74 : decode cX0_copyFrom 74 = .ok (.return_, 1) := by decide +kernel
theorem dX1_init_0 : decode cX1_init 0 = .ok (.aload_n 0, 1) := by decide +kernel
theorem dX1_init_1 : decode cX1_init 1 = .ok (.invokespecial 3, 3) := by decide +kernel
theorem dX1_init_4 : decode cX1_init 4 = .ok (.aload_n 0, 1) := by decide +kernel
theorem dX1_init_5 : decode cX1_init 5 = .ok (.new 9, 3) := by decide +kernel
theorem dX1_init_8 : decode cX1_init 8 = .ok (.dup, 1) := by decide +kernel
theorem dX1_init_9 : decode cX1_init 9 = .ok (.invokespecial 11, 3) := by decide +kernel
theorem dX1_init_12 : decode cX1_init 12 = .ok (.putfield 12, 3) := by decide +kernel
theorem dX1_init_15 : decode cX1_init 15 = .ok (.aload_n 0, 1) := by decide +kernel
theorem dX1_init_16 : decode cX1_init 16 = .ok (.aload_n 0, 1) := by decide +kernel
theorem dX1_init_17 : decode cX1_init 17 = .ok (.getfield 12, 3) := by decide +kernel
theorem dX1_init_20 : decode cX1_init 20 = .ok (.getfield 18, 3) := by decide +kernel
theorem dX1_init_23 : decode cX1_init 23 = .ok (.putfield 22, 3) := by decide +kernel
theorem dX1_init_26 : decode cX1_init 26 = .ok (.aload_n 0, 1) := by decide +kernel
theorem dX1_init_27 : decode cX1_init 27 = .ok (.aload_n 0, 1) := by decide +kernel
theorem dX1_init_28 : decode cX1_init 28 = .ok (.getfield 12, 3) := by decide +kernel
theorem dX1_init_31 : decode cX1_init 31 = .ok (.getfield 23, 3) := by decide +kernel
theorem dX1_init_34 : decode cX1_init 34 = .ok (.putfield 27, 3) := by decide +kernel
theorem dX1_init_37 : decode cX1_init 37 = .ok (.aload_n 0, 1) := by decide +kernel
theorem dX1_init_38 : decode cX1_init 38 = .ok (.aload_n 0, 1) := by decide +kernel
theorem dX1_init_39 : decode cX1_init 39 = .ok (.getfield 12, 3) := by decide +kernel
theorem dX1_init_42 : decode cX1_init 42 = .ok (.getfield 28, 3) := by decide +kernel
theorem dX1_init_45 : decode cX1_init 45 = .ok (.putfield 32, 3) := by decide +kernel
theorem dX1_init_48 : decode cX1_init 48 = .ok (.return_, 1) := by decide +kernel
theorem dX1_runTick_0 : decode cX1_runTick 0 = .ok (.aload_n 0, 1) := by decide +kernel
theorem dX1_runTick_1 : decode cX1_runTick 1 = .ok (.getfield 12, 3) := by decide +kernel
theorem dX1_runTick_4 : decode cX1_runTick 4 = .ok (.dup, 1) := by decide +kernel
theorem dX1_runTick_5 : decode cX1_runTick 5 = .ok (.getfield 33, 3) := by decide +kernel
theorem dX1_runTick_8 : decode cX1_runTick 8 = .ok (.iconst 1, 1) := by decide +kernel
theorem dX1_runTick_9 : decode cX1_runTick 9 = .ok (.iadd, 1) := by decide +kernel
theorem dX1_runTick_10 : decode cX1_runTick 10 = .ok (.putfield 33, 3) := by decide +kernel
theorem dX1_runTick_13 : decode cX1_runTick 13 = .ok (.iconst 0, 1) := by decide +kernel
theorem dX1_runTick_14 : decode cX1_runTick 14 = .ok (.istore_n 1, 1) := by decide +kernel
theorem dX1_runTick_15 : decode cX1_runTick 15 = .ok (.iload_n 1, 1) := by decide +kernel
theorem dX1_runTick_16 : decode cX1_runTick 16 = .ok (.aload_n 0, 1) := by decide +kernel
theorem dX1_runTick_17 : decode cX1_runTick 17 = .ok (.getfield 32, 3) := by decide +kernel
theorem dX1_runTick_20 : decode cX1_runTick 20 = .ok (.getfield 37, 3) := by decide +kernel
theorem dX1_runTick_23 : decode cX1_runTick 23 = .ok (.if_icmp .ge 14, 3) := by decide +kernel
theorem dX1_runTick_26 : decode cX1_runTick 26 = .ok (.aload_n 0, 1) := by decide +kernel
theorem dX1_runTick_27 : decode cX1_runTick 27 = .ok (.iload_n 1, 1) := by decide +kernel
theorem dX1_runTick_28 : decode cX1_runTick 28 = .ok (.invokevirtual 42, 3) := by decide +kernel
theorem dX1_runTick_31 : decode cX1_runTick 31 = .ok (.iinc 1 1, 3) := by decide +kernel
theorem dX1_runTick_34 : decode cX1_runTick 34 = .ok (.goto (-19), 3) := by decide +kernel
theorem dX1_runTick_37 : decode cX1_runTick 37 = .ok (.iconst 1, 1) := by decide +kernel
theorem dX1_runTick_38 : decode cX1_runTick 38 = .ok (.istore_n 1, 1) := by decide +kernel
theorem dX1_runTick_39 : decode cX1_runTick 39 = .ok (.iload_n 1, 1) := by decide +kernel
theorem dX1_runTick_40 : decode cX1_runTick 40 = .ok (.bipush 8, 2) := by decide +kernel
theorem dX1_runTick_42 : decode cX1_runTick 42 = .ok (.if_icmp .gt 57, 3) := by decide +kernel
theorem dX1_runTick_45 : decode cX1_runTick 45 = .ok (.iconst 0, 1) := by decide +kernel
theorem dX1_runTick_46 : decode cX1_runTick 46 = .ok (.istore_n 2, 1) := by decide +kernel
theorem dX1_runTick_47 : decode cX1_runTick 47 = .ok (.iload_n 2, 1) := by decide +kernel
theorem dX1_runTick_48 : decode cX1_runTick 48 = .ok (.aload_n 0, 1) := by decide +kernel
theorem dX1_runTick_49 : decode cX1_runTick 49 = .ok (.getfield 32, 3) := by decide +kernel
theorem dX1_runTick_52 : decode cX1_runTick 52 = .ok (.getfield 37, 3) := by decide +kernel
theorem dX1_runTick_55 : decode cX1_runTick 55 = .ok (.if_icmp .ge 38, 3) := by decide +kernel
theorem dX1_runTick_58 : decode cX1_runTick 58 = .ok (.aload_n 0, 1) := by decide +kernel
theorem dX1_runTick_59 : decode cX1_runTick 59 = .ok (.iload_n 1, 1) := by decide +kernel
theorem dX1_runTick_60 : decode cX1_runTick 60 = .ok (.iload_n 2, 1) := by decide +kernel
theorem dX1_runTick_61 : decode cX1_runTick 61 = .ok (.invokevirtual 46, 3) := by decide +kernel
theorem dX1_runTick_64 : decode cX1_runTick 64 = .ok (.ifCond .eq 23, 3) := by decide +kernel
theorem dX1_runTick_67 : decode cX1_runTick 67 = .ok (.aload_n 0, 1) := by decide +kernel
theorem dX1_runTick_68 : decode cX1_runTick 68 = .ok (.getfield 12, 3) := by decide +kernel
theorem dX1_runTick_71 : decode cX1_runTick 71 = .ok (.getfield 50, 3) := by decide +kernel
theorem dX1_runTick_74 : decode cX1_runTick 74 = .ok (.iload_n 1, 1) := by decide +kernel
theorem dX1_runTick_75 : decode cX1_runTick 75 = .ok (.dup2, 1) := by decide +kernel
theorem dX1_runTick_76 : decode cX1_runTick 76 = .ok (.iaload, 1) := by decide +kernel
theorem dX1_runTick_77 : decode cX1_runTick 77 = .ok (.iconst 1, 1) := by decide +kernel
theorem dX1_runTick_78 : decode cX1_runTick 78 = .ok (.iadd, 1) := by decide +kernel
theorem dX1_runTick_79 : decode cX1_runTick 79 = .ok (.iastore, 1) := by decide +kernel
theorem dX1_runTick_80 : decode cX1_runTick 80 = .ok (.bipush 100, 2) := by decide +kernel
theorem dX1_runTick_82 : decode cX1_runTick 82 = .ok (.iload_n 1, 1) := by decide +kernel
theorem dX1_runTick_83 : decode cX1_runTick 83 = .ok (.imul, 1) := by decide +kernel
theorem dX1_runTick_84 : decode cX1_runTick 84 = .ok (.iload_n 2, 1) := by decide +kernel
theorem dX1_runTick_85 : decode cX1_runTick 85 = .ok (.iadd, 1) := by decide +kernel
theorem dX1_runTick_86 : decode cX1_runTick 86 = .ok (.ireturn, 1) := by decide +kernel
theorem dX1_runTick_87 : decode cX1_runTick 87 = .ok (.iinc 2 1, 3) := by decide +kernel
theorem dX1_runTick_90 : decode cX1_runTick 90 = .ok (.goto (-43), 3) := by decide +kernel
theorem dX1_runTick_93 : decode cX1_runTick 93 = .ok (.iinc 1 1, 3) := by decide +kernel
theorem dX1_runTick_96 : decode cX1_runTick 96 = .ok (.goto (-57), 3) := by decide +kernel
theorem dX1_runTick_99 : decode cX1_runTick 99 = .ok (.iconst 0, 1) := by decide +kernel
theorem dX1_runTick_100 : decode cX1_runTick 100 = .ok (.ireturn, 1) := by decide +kernel
theorem dX1_advanceLearner_0 : decode cX1_advanceLearner 0 = .ok (.aload_n 0, 1) := by decide +kernel
theorem dX1_advanceLearner_1 : decode cX1_advanceLearner 1 = .ok (.getfield 32, 3) := by decide +kernel
theorem dX1_advanceLearner_4 : decode cX1_advanceLearner 4 = .ok (.getfield 54, 3) := by decide +kernel
theorem dX1_advanceLearner_7 : decode cX1_advanceLearner 7 = .ok (.iload_n 1, 1) := by decide +kernel
theorem dX1_advanceLearner_8 : decode cX1_advanceLearner 8 = .ok (.iaload, 1) := by decide +kernel
theorem dX1_advanceLearner_9 : decode cX1_advanceLearner 9 = .ok (.istore_n 2, 1) := by decide +kernel
theorem dX1_advanceLearner_10 : decode cX1_advanceLearner 10 = .ok (.aload_n 0, 1) := by decide +kernel
theorem dX1_advanceLearner_11 : decode cX1_advanceLearner 11 = .ok (.getfield 27, 3) := by decide +kernel
theorem dX1_advanceLearner_14 : decode cX1_advanceLearner 14 = .ok (.iload_n 2, 1) := by decide +kernel
theorem dX1_advanceLearner_15 : decode cX1_advanceLearner 15 = .ok (.invokevirtual 57, 3) := by decide +kernel
theorem dX1_advanceLearner_18 : decode cX1_advanceLearner 18 = .ok (.ifCond .eq 16, 3) := by decide +kernel
theorem dX1_advanceLearner_21 : decode cX1_advanceLearner 21 = .ok (.aload_n 0, 1) := by decide +kernel
theorem dX1_advanceLearner_22 : decode cX1_advanceLearner 22 = .ok (.getfield 32, 3) := by decide +kernel
theorem dX1_advanceLearner_25 : decode cX1_advanceLearner 25 = .ok (.getfield 63, 3) := by decide +kernel
theorem dX1_advanceLearner_28 : decode cX1_advanceLearner 28 = .ok (.iload_n 1, 1) := by decide +kernel
theorem dX1_advanceLearner_29 : decode cX1_advanceLearner 29 = .ok (.iaload, 1) := by decide +kernel
theorem dX1_advanceLearner_30 : decode cX1_advanceLearner 30 = .ok (.iconst (-1), 1) := by decide +kernel
theorem dX1_advanceLearner_31 : decode cX1_advanceLearner 31 = .ok (.if_icmp .ne 4, 3) := by decide +kernel
theorem dX1_advanceLearner_34 : decode cX1_advanceLearner 34 = .ok (.return_, 1) := by decide +kernel
theorem dX1_advanceLearner_35 : decode cX1_advanceLearner 35 = .ok (.aload_n 0, 1) := by decide +kernel
theorem dX1_advanceLearner_36 : decode cX1_advanceLearner 36 = .ok (.getfield 32, 3) := by decide +kernel
theorem dX1_advanceLearner_39 : decode cX1_advanceLearner 39 = .ok (.getfield 66, 3) := by decide +kernel
theorem dX1_advanceLearner_42 : decode cX1_advanceLearner 42 = .ok (.iload_n 1, 1) := by decide +kernel
theorem dX1_advanceLearner_43 : decode cX1_advanceLearner 43 = .ok (.dup2, 1) := by decide +kernel
theorem dX1_advanceLearner_44 : decode cX1_advanceLearner 44 = .ok (.iaload, 1) := by decide +kernel
theorem dX1_advanceLearner_45 : decode cX1_advanceLearner 45 = .ok (.iconst 1, 1) := by decide +kernel
theorem dX1_advanceLearner_46 : decode cX1_advanceLearner 46 = .ok (.isub, 1) := by decide +kernel
theorem dX1_advanceLearner_47 : decode cX1_advanceLearner 47 = .ok (.iastore, 1) := by decide +kernel
theorem dX1_advanceLearner_48 : decode cX1_advanceLearner 48 = .ok (.aload_n 0, 1) := by decide +kernel
theorem dX1_advanceLearner_49 : decode cX1_advanceLearner 49 = .ok (.getfield 32, 3) := by decide +kernel
theorem dX1_advanceLearner_52 : decode cX1_advanceLearner 52 = .ok (.getfield 66, 3) := by decide +kernel
theorem dX1_advanceLearner_55 : decode cX1_advanceLearner 55 = .ok (.iload_n 1, 1) := by decide +kernel
theorem dX1_advanceLearner_56 : decode cX1_advanceLearner 56 = .ok (.iaload, 1) := by decide +kernel
theorem dX1_advanceLearner_57 : decode cX1_advanceLearner 57 = .ok (.ifCond .le 4, 3) := by decide +kernel
theorem dX1_advanceLearner_60 : decode cX1_advanceLearner 60 = .ok (.return_, 1) := by decide +kernel
theorem dX1_advanceLearner_61 : decode cX1_advanceLearner 61 = .ok (.aload_n 0, 1) := by decide +kernel
theorem dX1_advanceLearner_62 : decode cX1_advanceLearner 62 = .ok (.getfield 32, 3) := by decide +kernel
theorem dX1_advanceLearner_65 : decode cX1_advanceLearner 65 = .ok (.getfield 69, 3) := by decide +kernel
theorem dX1_advanceLearner_68 : decode cX1_advanceLearner 68 = .ok (.iload_n 1, 1) := by decide +kernel
theorem dX1_advanceLearner_69 : decode cX1_advanceLearner 69 = .ok (.iaload, 1) := by decide +kernel
theorem dX1_advanceLearner_70 : decode cX1_advanceLearner 70 = .ok (.istore_n 3, 1) := by decide +kernel
theorem dX1_advanceLearner_71 : decode cX1_advanceLearner 71 = .ok (.aload_n 0, 1) := by decide +kernel
theorem dX1_advanceLearner_72 : decode cX1_advanceLearner 72 = .ok (.getfield 32, 3) := by decide +kernel
theorem dX1_advanceLearner_75 : decode cX1_advanceLearner 75 = .ok (.iload_n 1, 1) := by decide +kernel
theorem dX1_advanceLearner_76 : decode cX1_advanceLearner 76 = .ok (.invokevirtual 72, 3) := by decide +kernel
theorem dX1_advanceLearner_79 : decode cX1_advanceLearner 79 = .ok (.aload_n 0, 1) := by decide +kernel
theorem dX1_advanceLearner_80 : decode cX1_advanceLearner 80 = .ok (.getfield 32, 3) := by decide +kernel
theorem dX1_advanceLearner_83 : decode cX1_advanceLearner 83 = .ok (.getfield 75, 3) := by decide +kernel
theorem dX1_advanceLearner_86 : decode cX1_advanceLearner 86 = .ok (.iload_n 1, 1) := by decide +kernel
theorem dX1_advanceLearner_87 : decode cX1_advanceLearner 87 = .ok (.aload_n 0, 1) := by decide +kernel
theorem dX1_advanceLearner_88 : decode cX1_advanceLearner 88 = .ok (.getfield 32, 3) := by decide +kernel
theorem dX1_advanceLearner_91 : decode cX1_advanceLearner 91 = .ok (.getfield 75, 3) := by decide +kernel
theorem dX1_advanceLearner_94 : decode cX1_advanceLearner 94 = .ok (.iload_n 1, 1) := by decide +kernel
theorem dX1_advanceLearner_95 : decode cX1_advanceLearner 95 = .ok (.iaload, 1) := by decide +kernel
theorem dX1_advanceLearner_96 : decode cX1_advanceLearner 96 = .ok (.iload_n 2, 1) := by decide +kernel
theorem dX1_advanceLearner_97 : decode cX1_advanceLearner 97 = .ok (.invokestatic 78, 3) := by decide +kernel
theorem dX1_advanceLearner_100 : decode cX1_advanceLearner 100 = .ok (.ior, 1) := by decide +kernel
theorem dX1_advanceLearner_101 : decode cX1_advanceLearner 101 = .ok (.iload_n 3, 1) := by decide +kernel
theorem dX1_advanceLearner_102 : decode cX1_advanceLearner 102 = .ok (.invokestatic 78, 3) := by decide +kernel
theorem dX1_advanceLearner_105 : decode cX1_advanceLearner 105 = .ok (.iconst (-1), 1) := by decide +kernel
theorem dX1_advanceLearner_106 : decode cX1_advanceLearner 106 = .ok (.ixor, 1) := by decide +kernel
theorem dX1_advanceLearner_107 : decode cX1_advanceLearner 107 = .ok (.iand, 1) := by decide +kernel
theorem dX1_advanceLearner_108 : decode cX1_advanceLearner 108 = .ok (.iastore, 1) := by decide +kernel
theorem dX1_advanceLearner_109 : decode cX1_advanceLearner 109 = .ok (.aload_n 0, 1) := by decide +kernel
theorem dX1_advanceLearner_110 : decode cX1_advanceLearner 110 = .ok (.getfield 32, 3) := by decide +kernel
theorem dX1_advanceLearner_113 : decode cX1_advanceLearner 113 = .ok (.getfield 63, 3) := by decide +kernel
theorem dX1_advanceLearner_116 : decode cX1_advanceLearner 116 = .ok (.iload_n 1, 1) := by decide +kernel
theorem dX1_advanceLearner_117 : decode cX1_advanceLearner 117 = .ok (.iaload, 1) := by decide +kernel
theorem dX1_advanceLearner_118 : decode cX1_advanceLearner 118 = .ok (.iload_n 3, 1) := by decide +kernel
theorem dX1_advanceLearner_119 : decode cX1_advanceLearner 119 = .ok (.if_icmp .ne 11, 3) := by decide +kernel
theorem dX1_advanceLearner_122 : decode cX1_advanceLearner 122 = .ok (.aload_n 0, 1) := by decide +kernel
theorem dX1_advanceLearner_123 : decode cX1_advanceLearner 123 = .ok (.getfield 12, 3) := by decide +kernel
theorem dX1_advanceLearner_126 : decode cX1_advanceLearner 126 = .ok (.iload_n 1, 1) := by decide +kernel
theorem dX1_advanceLearner_127 : decode cX1_advanceLearner 127 = .ok (.invokevirtual 82, 3) := by decide +kernel
theorem dX1_advanceLearner_130 : decode cX1_advanceLearner 130 = .ok (.return_, 1) := by decide +kernel
theorem dX1_perform_0 : decode cX1_perform 0 = .ok (.iload_n 1, 1) := by decide +kernel
theorem dX1_perform_1 : decode cX1_perform 1 = .ok (.tableswitch 95 1 8 #[47, 53, 59, 65, 71, 77, 83, 89], 47) := by decide +kernel
theorem dX1_perform_48 : decode cX1_perform 48 = .ok (.aload_n 0, 1) := by decide +kernel
theorem dX1_perform_49 : decode cX1_perform 49 = .ok (.iload_n 2, 1) := by decide +kernel
theorem dX1_perform_50 : decode cX1_perform 50 = .ok (.invokevirtual 85, 3) := by decide +kernel
theorem dX1_perform_53 : decode cX1_perform 53 = .ok (.ireturn, 1) := by decide +kernel
theorem dX1_perform_54 : decode cX1_perform 54 = .ok (.aload_n 0, 1) := by decide +kernel
theorem dX1_perform_55 : decode cX1_perform 55 = .ok (.iload_n 2, 1) := by decide +kernel
theorem dX1_perform_56 : decode cX1_perform 56 = .ok (.invokevirtual 88, 3) := by decide +kernel
theorem dX1_perform_59 : decode cX1_perform 59 = .ok (.ireturn, 1) := by decide +kernel
theorem dX1_perform_60 : decode cX1_perform 60 = .ok (.aload_n 0, 1) := by decide +kernel
theorem dX1_perform_61 : decode cX1_perform 61 = .ok (.iload_n 2, 1) := by decide +kernel
theorem dX1_perform_62 : decode cX1_perform 62 = .ok (.invokevirtual 91, 3) := by decide +kernel
theorem dX1_perform_65 : decode cX1_perform 65 = .ok (.ireturn, 1) := by decide +kernel
theorem dX1_perform_66 : decode cX1_perform 66 = .ok (.aload_n 0, 1) := by decide +kernel
theorem dX1_perform_67 : decode cX1_perform 67 = .ok (.iload_n 2, 1) := by decide +kernel
theorem dX1_perform_68 : decode cX1_perform 68 = .ok (.invokevirtual 94, 3) := by decide +kernel
theorem dX1_perform_71 : decode cX1_perform 71 = .ok (.ireturn, 1) := by decide +kernel
theorem dX1_perform_72 : decode cX1_perform 72 = .ok (.aload_n 0, 1) := by decide +kernel
theorem dX1_perform_73 : decode cX1_perform 73 = .ok (.iload_n 2, 1) := by decide +kernel
theorem dX1_perform_74 : decode cX1_perform 74 = .ok (.invokevirtual 97, 3) := by decide +kernel
theorem dX1_perform_77 : decode cX1_perform 77 = .ok (.ireturn, 1) := by decide +kernel
theorem dX1_perform_78 : decode cX1_perform 78 = .ok (.aload_n 0, 1) := by decide +kernel
theorem dX1_perform_79 : decode cX1_perform 79 = .ok (.iload_n 2, 1) := by decide +kernel
theorem dX1_perform_80 : decode cX1_perform 80 = .ok (.invokevirtual 100, 3) := by decide +kernel
theorem dX1_perform_83 : decode cX1_perform 83 = .ok (.ireturn, 1) := by decide +kernel
theorem dX1_perform_84 : decode cX1_perform 84 = .ok (.aload_n 0, 1) := by decide +kernel
theorem dX1_perform_85 : decode cX1_perform 85 = .ok (.iload_n 2, 1) := by decide +kernel
theorem dX1_perform_86 : decode cX1_perform 86 = .ok (.invokevirtual 103, 3) := by decide +kernel
theorem dX1_perform_89 : decode cX1_perform 89 = .ok (.ireturn, 1) := by decide +kernel
theorem dX1_perform_90 : decode cX1_perform 90 = .ok (.aload_n 0, 1) := by decide +kernel
theorem dX1_perform_91 : decode cX1_perform 91 = .ok (.iload_n 2, 1) := by decide +kernel
theorem dX1_perform_92 : decode cX1_perform 92 = .ok (.invokevirtual 106, 3) := by decide +kernel
theorem dX1_perform_95 : decode cX1_perform 95 = .ok (.ireturn, 1) := by decide +kernel
theorem dX1_perform_96 : decode cX1_perform 96 = .ok (.iconst 0, 1) := by decide +kernel
theorem dX1_perform_97 : decode cX1_perform 97 = .ok (.ireturn, 1) := by decide +kernel
theorem dX1_create_0 : decode cX1_create 0 = .ok (.aload_n 0, 1) := by decide +kernel
theorem dX1_create_1 : decode cX1_create 1 = .ok (.getfield 32, 3) := by decide +kernel
theorem dX1_create_4 : decode cX1_create 4 = .ok (.getfield 75, 3) := by decide +kernel
theorem dX1_create_7 : decode cX1_create 7 = .ok (.iload_n 1, 1) := by decide +kernel
theorem dX1_create_8 : decode cX1_create 8 = .ok (.iaload, 1) := by decide +kernel
theorem dX1_create_9 : decode cX1_create 9 = .ok (.ifCond .eq 5, 3) := by decide +kernel
theorem dX1_create_12 : decode cX1_create 12 = .ok (.iconst 0, 1) := by decide +kernel
theorem dX1_create_13 : decode cX1_create 13 = .ok (.ireturn, 1) := by decide +kernel
theorem dX1_create_14 : decode cX1_create 14 = .ok (.aload_n 0, 1) := by decide +kernel
theorem dX1_create_15 : decode cX1_create 15 = .ok (.iload_n 1, 1) := by decide +kernel
theorem dX1_create_16 : decode cX1_create 16 = .ok (.iconst (-1), 1) := by decide +kernel
theorem dX1_create_17 : decode cX1_create 17 = .ok (.invokevirtual 109, 3) := by decide +kernel
theorem dX1_create_20 : decode cX1_create 20 = .ok (.istore_n 2, 1) := by decide +kernel
theorem dX1_create_21 : decode cX1_create 21 = .ok (.iload_n 2, 1) := by decide +kernel
theorem dX1_create_22 : decode cX1_create 22 = .ok (.iconst (-1), 1) := by decide +kernel
theorem dX1_create_23 : decode cX1_create 23 = .ok (.if_icmp .ne 5, 3) := by decide +kernel
theorem dX1_create_26 : decode cX1_create 26 = .ok (.iconst 0, 1) := by decide +kernel
theorem dX1_create_27 : decode cX1_create 27 = .ok (.ireturn, 1) := by decide +kernel
theorem dX1_create_28 : decode cX1_create 28 = .ok (.aload_n 0, 1) := by decide +kernel
theorem dX1_create_29 : decode cX1_create 29 = .ok (.getfield 32, 3) := by decide +kernel
theorem dX1_create_32 : decode cX1_create 32 = .ok (.getfield 75, 3) := by decide +kernel
theorem dX1_create_35 : decode cX1_create 35 = .ok (.iload_n 1, 1) := by decide +kernel
theorem dX1_create_36 : decode cX1_create 36 = .ok (.iload_n 2, 1) := by decide +kernel
theorem dX1_create_37 : decode cX1_create 37 = .ok (.invokestatic 78, 3) := by decide +kernel
theorem dX1_create_40 : decode cX1_create 40 = .ok (.iastore, 1) := by decide +kernel
theorem dX1_create_41 : decode cX1_create 41 = .ok (.aload_n 0, 1) := by decide +kernel
theorem dX1_create_42 : decode cX1_create 42 = .ok (.getfield 12, 3) := by decide +kernel
theorem dX1_create_45 : decode cX1_create 45 = .ok (.iload_n 1, 1) := by decide +kernel
theorem dX1_create_46 : decode cX1_create 46 = .ok (.invokevirtual 82, 3) := by decide +kernel
theorem dX1_create_49 : decode cX1_create 49 = .ok (.iconst 1, 1) := by decide +kernel
theorem dX1_create_50 : decode cX1_create 50 = .ok (.ireturn, 1) := by decide +kernel
theorem dX1_repair_0 : decode cX1_repair 0 = .ok (.aload_n 0, 1) := by decide +kernel
theorem dX1_repair_1 : decode cX1_repair 1 = .ok (.getfield 32, 3) := by decide +kernel
theorem dX1_repair_4 : decode cX1_repair 4 = .ok (.iload_n 1, 1) := by decide +kernel
theorem dX1_repair_5 : decode cX1_repair 5 = .ok (.invokevirtual 113, 3) := by decide +kernel
theorem dX1_repair_8 : decode cX1_repair 8 = .ok (.ifCond .ne 35, 3) := by decide +kernel
theorem dX1_repair_11 : decode cX1_repair 11 = .ok (.aload_n 0, 1) := by decide +kernel
theorem dX1_repair_12 : decode cX1_repair 12 = .ok (.getfield 12, 3) := by decide +kernel
theorem dX1_repair_15 : decode cX1_repair 15 = .ok (.iload_n 1, 1) := by decide +kernel
theorem dX1_repair_16 : decode cX1_repair 16 = .ok (.invokevirtual 116, 3) := by decide +kernel
theorem dX1_repair_19 : decode cX1_repair 19 = .ok (.ifCond .eq 24, 3) := by decide +kernel
theorem dX1_repair_22 : decode cX1_repair 22 = .ok (.aload_n 0, 1) := by decide +kernel
theorem dX1_repair_23 : decode cX1_repair 23 = .ok (.getfield 12, 3) := by decide +kernel
theorem dX1_repair_26 : decode cX1_repair 26 = .ok (.iload_n 1, 1) := by decide +kernel
theorem dX1_repair_27 : decode cX1_repair 27 = .ok (.invokevirtual 119, 3) := by decide +kernel
theorem dX1_repair_30 : decode cX1_repair 30 = .ok (.invokestatic 122, 3) := by decide +kernel
theorem dX1_repair_33 : decode cX1_repair 33 = .ok (.aload_n 0, 1) := by decide +kernel
theorem dX1_repair_34 : decode cX1_repair 34 = .ok (.getfield 22, 3) := by decide +kernel
theorem dX1_repair_37 : decode cX1_repair 37 = .ok (.getfield 127, 3) := by decide +kernel
theorem dX1_repair_40 : decode cX1_repair 40 = .ok (.if_icmp .lt 5, 3) := by decide +kernel
theorem dX1_repair_43 : decode cX1_repair 43 = .ok (.iconst 0, 1) := by decide +kernel
theorem dX1_repair_44 : decode cX1_repair 44 = .ok (.ireturn, 1) := by decide +kernel
theorem dX1_repair_45 : decode cX1_repair 45 = .ok (.aload_n 0, 1) := by decide +kernel
theorem dX1_repair_46 : decode cX1_repair 46 = .ok (.aload_n 0, 1) := by decide +kernel
theorem dX1_repair_47 : decode cX1_repair 47 = .ok (.getfield 12, 3) := by decide +kernel
theorem dX1_repair_50 : decode cX1_repair 50 = .ok (.iload_n 1, 1) := by decide +kernel
theorem dX1_repair_51 : decode cX1_repair 51 = .ok (.invokevirtual 132, 3) := by decide +kernel
theorem dX1_repair_54 : decode cX1_repair 54 = .ok (.invokevirtual 135, 3) := by decide +kernel
theorem dX1_repair_57 : decode cX1_repair 57 = .ok (.istore_n 2, 1) := by decide +kernel
theorem dX1_repair_58 : decode cX1_repair 58 = .ok (.aload_n 0, 1) := by decide +kernel
theorem dX1_repair_59 : decode cX1_repair 59 = .ok (.iload_n 1, 1) := by decide +kernel
theorem dX1_repair_60 : decode cX1_repair 60 = .ok (.iload_n 2, 1) := by decide +kernel
theorem dX1_repair_61 : decode cX1_repair 61 = .ok (.invokevirtual 109, 3) := by decide +kernel
theorem dX1_repair_64 : decode cX1_repair 64 = .ok (.istore_n 3, 1) := by decide +kernel
theorem dX1_repair_65 : decode cX1_repair 65 = .ok (.iload_n 3, 1) := by decide +kernel
theorem dX1_repair_66 : decode cX1_repair 66 = .ok (.iconst (-1), 1) := by decide +kernel
theorem dX1_repair_67 : decode cX1_repair 67 = .ok (.if_icmp .ne 5, 3) := by decide +kernel
theorem dX1_repair_70 : decode cX1_repair 70 = .ok (.iconst 0, 1) := by decide +kernel
theorem dX1_repair_71 : decode cX1_repair 71 = .ok (.ireturn, 1) := by decide +kernel
theorem dX1_repair_72 : decode cX1_repair 72 = .ok (.aload_n 0, 1) := by decide +kernel
theorem dX1_repair_73 : decode cX1_repair 73 = .ok (.iload_n 1, 1) := by decide +kernel
theorem dX1_repair_74 : decode cX1_repair 74 = .ok (.iload_n 3, 1) := by decide +kernel
theorem dX1_repair_75 : decode cX1_repair 75 = .ok (.iload_n 2, 1) := by decide +kernel
theorem dX1_repair_76 : decode cX1_repair 76 = .ok (.invokevirtual 138, 3) := by decide +kernel
theorem dX1_repair_79 : decode cX1_repair 79 = .ok (.iconst 1, 1) := by decide +kernel
theorem dX1_repair_80 : decode cX1_repair 80 = .ok (.ireturn, 1) := by decide +kernel
theorem dX1_spread_0 : decode cX1_spread 0 = .ok (.aload_n 0, 1) := by decide +kernel
theorem dX1_spread_1 : decode cX1_spread 1 = .ok (.iload_n 1, 1) := by decide +kernel
theorem dX1_spread_2 : decode cX1_spread 2 = .ok (.invokevirtual 142, 3) := by decide +kernel
theorem dX1_spread_5 : decode cX1_spread 5 = .ok (.ifCond .ne 5, 3) := by decide +kernel
theorem dX1_spread_8 : decode cX1_spread 8 = .ok (.iconst 0, 1) := by decide +kernel
theorem dX1_spread_9 : decode cX1_spread 9 = .ok (.ireturn, 1) := by decide +kernel
theorem dX1_spread_10 : decode cX1_spread 10 = .ok (.aload_n 0, 1) := by decide +kernel
theorem dX1_spread_11 : decode cX1_spread 11 = .ok (.aload_n 0, 1) := by decide +kernel
theorem dX1_spread_12 : decode cX1_spread 12 = .ok (.getfield 32, 3) := by decide +kernel
theorem dX1_spread_15 : decode cX1_spread 15 = .ok (.getfield 75, 3) := by decide +kernel
theorem dX1_spread_18 : decode cX1_spread 18 = .ok (.iload_n 1, 1) := by decide +kernel
theorem dX1_spread_19 : decode cX1_spread 19 = .ok (.iaload, 1) := by decide +kernel
theorem dX1_spread_20 : decode cX1_spread 20 = .ok (.invokevirtual 145, 3) := by decide +kernel
theorem dX1_spread_23 : decode cX1_spread 23 = .ok (.istore_n 2, 1) := by decide +kernel
theorem dX1_spread_24 : decode cX1_spread 24 = .ok (.iload_n 2, 1) := by decide +kernel
theorem dX1_spread_25 : decode cX1_spread 25 = .ok (.iconst (-1), 1) := by decide +kernel
theorem dX1_spread_26 : decode cX1_spread 26 = .ok (.if_icmp .ne 5, 3) := by decide +kernel
theorem dX1_spread_29 : decode cX1_spread 29 = .ok (.iconst 0, 1) := by decide +kernel
theorem dX1_spread_30 : decode cX1_spread 30 = .ok (.ireturn, 1) := by decide +kernel
theorem dX1_spread_31 : decode cX1_spread 31 = .ok (.aload_n 0, 1) := by decide +kernel
theorem dX1_spread_32 : decode cX1_spread 32 = .ok (.iload_n 1, 1) := by decide +kernel
theorem dX1_spread_33 : decode cX1_spread 33 = .ok (.iload_n 2, 1) := by decide +kernel
theorem dX1_spread_34 : decode cX1_spread 34 = .ok (.invokevirtual 109, 3) := by decide +kernel
theorem dX1_spread_37 : decode cX1_spread 37 = .ok (.istore_n 3, 1) := by decide +kernel
theorem dX1_spread_38 : decode cX1_spread 38 = .ok (.iload_n 3, 1) := by decide +kernel
theorem dX1_spread_39 : decode cX1_spread 39 = .ok (.iconst (-1), 1) := by decide +kernel
theorem dX1_spread_40 : decode cX1_spread 40 = .ok (.if_icmp .eq 13, 3) := by decide +kernel
theorem dX1_spread_43 : decode cX1_spread 43 = .ok (.aload_n 0, 1) := by decide +kernel
theorem dX1_spread_44 : decode cX1_spread 44 = .ok (.iload_n 1, 1) := by decide +kernel
theorem dX1_spread_45 : decode cX1_spread 45 = .ok (.iload_n 2, 1) := by decide +kernel
theorem dX1_spread_46 : decode cX1_spread 46 = .ok (.iload_n 3, 1) := by decide +kernel
theorem dX1_spread_47 : decode cX1_spread 47 = .ok (.invokevirtual 148, 3) := by decide +kernel
theorem dX1_spread_50 : decode cX1_spread 50 = .ok (.ifCond .ne 5, 3) := by decide +kernel
theorem dX1_spread_53 : decode cX1_spread 53 = .ok (.iconst 0, 1) := by decide +kernel
theorem dX1_spread_54 : decode cX1_spread 54 = .ok (.ireturn, 1) := by decide +kernel
theorem dX1_spread_55 : decode cX1_spread 55 = .ok (.aload_n 0, 1) := by decide +kernel
theorem dX1_spread_56 : decode cX1_spread 56 = .ok (.iload_n 1, 1) := by decide +kernel
theorem dX1_spread_57 : decode cX1_spread 57 = .ok (.iload_n 3, 1) := by decide +kernel
theorem dX1_spread_58 : decode cX1_spread 58 = .ok (.iload_n 2, 1) := by decide +kernel
theorem dX1_spread_59 : decode cX1_spread 59 = .ok (.invokevirtual 138, 3) := by decide +kernel
theorem dX1_spread_62 : decode cX1_spread 62 = .ok (.iconst 1, 1) := by decide +kernel
theorem dX1_spread_63 : decode cX1_spread 63 = .ok (.ireturn, 1) := by decide +kernel
theorem dX1_splitBySize_0 : decode cX1_splitBySize 0 = .ok (.aload_n 0, 1) := by decide +kernel
theorem dX1_splitBySize_1 : decode cX1_splitBySize 1 = .ok (.getfield 32, 3) := by decide +kernel
theorem dX1_splitBySize_4 : decode cX1_splitBySize 4 = .ok (.iload_n 1, 1) := by decide +kernel
theorem dX1_splitBySize_5 : decode cX1_splitBySize 5 = .ok (.invokevirtual 113, 3) := by decide +kernel
theorem dX1_splitBySize_8 : decode cX1_splitBySize 8 = .ok (.ifCond .ne 31, 3) := by decide +kernel
theorem dX1_splitBySize_11 : decode cX1_splitBySize 11 = .ok (.aload_n 0, 1) := by decide +kernel
theorem dX1_splitBySize_12 : decode cX1_splitBySize 12 = .ok (.getfield 32, 3) := by decide +kernel
theorem dX1_splitBySize_15 : decode cX1_splitBySize 15 = .ok (.invokevirtual 152, 3) := by decide +kernel
theorem dX1_splitBySize_18 : decode cX1_splitBySize 18 = .ok (.ifCond .ne 21, 3) := by decide +kernel
theorem dX1_splitBySize_21 : decode cX1_splitBySize 21 = .ok (.aload_n 0, 1) := by decide +kernel
theorem dX1_splitBySize_22 : decode cX1_splitBySize 22 = .ok (.getfield 12, 3) := by decide +kernel
theorem dX1_splitBySize_25 : decode cX1_splitBySize 25 = .ok (.iload_n 1, 1) := by decide +kernel
theorem dX1_splitBySize_26 : decode cX1_splitBySize 26 = .ok (.invokevirtual 156, 3) := by decide +kernel
theorem dX1_splitBySize_29 : decode cX1_splitBySize 29 = .ok (.aload_n 0, 1) := by decide +kernel
theorem dX1_splitBySize_30 : decode cX1_splitBySize 30 = .ok (.getfield 22, 3) := by decide +kernel
theorem dX1_splitBySize_33 : decode cX1_splitBySize 33 = .ok (.getfield 159, 3) := by decide +kernel
theorem dX1_splitBySize_36 : decode cX1_splitBySize 36 = .ok (.if_icmp .gt 5, 3) := by decide +kernel
theorem dX1_splitBySize_39 : decode cX1_splitBySize 39 = .ok (.iconst 0, 1) := by decide +kernel
theorem dX1_splitBySize_40 : decode cX1_splitBySize 40 = .ok (.ireturn, 1) := by decide +kernel
theorem dX1_splitBySize_41 : decode cX1_splitBySize 41 = .ok (.aload_n 0, 1) := by decide +kernel
theorem dX1_splitBySize_42 : decode cX1_splitBySize 42 = .ok (.iload_n 1, 1) := by decide +kernel
theorem dX1_splitBySize_43 : decode cX1_splitBySize 43 = .ok (.aload_n 0, 1) := by decide +kernel
theorem dX1_splitBySize_44 : decode cX1_splitBySize 44 = .ok (.getfield 12, 3) := by decide +kernel
theorem dX1_splitBySize_47 : decode cX1_splitBySize 47 = .ok (.iload_n 1, 1) := by decide +kernel
theorem dX1_splitBySize_48 : decode cX1_splitBySize 48 = .ok (.invokevirtual 162, 3) := by decide +kernel
theorem dX1_splitBySize_51 : decode cX1_splitBySize 51 = .ok (.invokevirtual 165, 3) := by decide +kernel
theorem dX1_splitBySize_54 : decode cX1_splitBySize 54 = .ok (.ireturn, 1) := by decide +kernel
theorem dX1_splitByLoad_0 : decode cX1_splitByLoad 0 = .ok (.aload_n 0, 1) := by decide +kernel
theorem dX1_splitByLoad_1 : decode cX1_splitByLoad 1 = .ok (.getfield 32, 3) := by decide +kernel
theorem dX1_splitByLoad_4 : decode cX1_splitByLoad 4 = .ok (.iload_n 1, 1) := by decide +kernel
theorem dX1_splitByLoad_5 : decode cX1_splitByLoad 5 = .ok (.invokevirtual 113, 3) := by decide +kernel
theorem dX1_splitByLoad_8 : decode cX1_splitByLoad 8 = .ok (.ifCond .ne 31, 3) := by decide +kernel
theorem dX1_splitByLoad_11 : decode cX1_splitByLoad 11 = .ok (.aload_n 0, 1) := by decide +kernel
theorem dX1_splitByLoad_12 : decode cX1_splitByLoad 12 = .ok (.getfield 32, 3) := by decide +kernel
theorem dX1_splitByLoad_15 : decode cX1_splitByLoad 15 = .ok (.invokevirtual 152, 3) := by decide +kernel
theorem dX1_splitByLoad_18 : decode cX1_splitByLoad 18 = .ok (.ifCond .ne 21, 3) := by decide +kernel
theorem dX1_splitByLoad_21 : decode cX1_splitByLoad 21 = .ok (.aload_n 0, 1) := by decide +kernel
theorem dX1_splitByLoad_22 : decode cX1_splitByLoad 22 = .ok (.getfield 12, 3) := by decide +kernel
theorem dX1_splitByLoad_25 : decode cX1_splitByLoad 25 = .ok (.iload_n 1, 1) := by decide +kernel
theorem dX1_splitByLoad_26 : decode cX1_splitByLoad 26 = .ok (.invokevirtual 168, 3) := by decide +kernel
theorem dX1_splitByLoad_29 : decode cX1_splitByLoad 29 = .ok (.aload_n 0, 1) := by decide +kernel
theorem dX1_splitByLoad_30 : decode cX1_splitByLoad 30 = .ok (.getfield 22, 3) := by decide +kernel
theorem dX1_splitByLoad_33 : decode cX1_splitByLoad 33 = .ok (.getfield 171, 3) := by decide +kernel
theorem dX1_splitByLoad_36 : decode cX1_splitByLoad 36 = .ok (.if_icmp .gt 5, 3) := by decide +kernel
theorem dX1_splitByLoad_39 : decode cX1_splitByLoad 39 = .ok (.iconst 0, 1) := by decide +kernel
theorem dX1_splitByLoad_40 : decode cX1_splitByLoad 40 = .ok (.ireturn, 1) := by decide +kernel
theorem dX1_splitByLoad_41 : decode cX1_splitByLoad 41 = .ok (.aload_n 0, 1) := by decide +kernel
theorem dX1_splitByLoad_42 : decode cX1_splitByLoad 42 = .ok (.iload_n 1, 1) := by decide +kernel
theorem dX1_splitByLoad_43 : decode cX1_splitByLoad 43 = .ok (.aload_n 0, 1) := by decide +kernel
theorem dX1_splitByLoad_44 : decode cX1_splitByLoad 44 = .ok (.getfield 12, 3) := by decide +kernel
theorem dX1_splitByLoad_47 : decode cX1_splitByLoad 47 = .ok (.iload_n 1, 1) := by decide +kernel
theorem dX1_splitByLoad_48 : decode cX1_splitByLoad 48 = .ok (.invokevirtual 174, 3) := by decide +kernel
theorem dX1_splitByLoad_51 : decode cX1_splitByLoad 51 = .ok (.invokevirtual 165, 3) := by decide +kernel
theorem dX1_splitByLoad_54 : decode cX1_splitByLoad 54 = .ok (.ireturn, 1) := by decide +kernel
theorem dX1_divideAt_0 : decode cX1_divideAt 0 = .ok (.iload_n 2, 1) := by decide +kernel
theorem dX1_divideAt_1 : decode cX1_divideAt 1 = .ok (.iconst (-1), 1) := by decide +kernel
theorem dX1_divideAt_2 : decode cX1_divideAt 2 = .ok (.if_icmp .ne 5, 3) := by decide +kernel
theorem dX1_divideAt_5 : decode cX1_divideAt 5 = .ok (.iconst 0, 1) := by decide +kernel
theorem dX1_divideAt_6 : decode cX1_divideAt 6 = .ok (.ireturn, 1) := by decide +kernel
theorem dX1_divideAt_7 : decode cX1_divideAt 7 = .ok (.aload_n 0, 1) := by decide +kernel
theorem dX1_divideAt_8 : decode cX1_divideAt 8 = .ok (.getfield 32, 3) := by decide +kernel
theorem dX1_divideAt_11 : decode cX1_divideAt 11 = .ok (.iload_n 1, 1) := by decide +kernel
theorem dX1_divideAt_12 : decode cX1_divideAt 12 = .ok (.iload_n 2, 1) := by decide +kernel
theorem dX1_divideAt_13 : decode cX1_divideAt 13 = .ok (.invokevirtual 177, 3) := by decide +kernel
theorem dX1_divideAt_16 : decode cX1_divideAt 16 = .ok (.iconst 1, 1) := by decide +kernel
theorem dX1_divideAt_17 : decode cX1_divideAt 17 = .ok (.ireturn, 1) := by decide +kernel
theorem dX1_merge_0 : decode cX1_merge 0 = .ok (.iload_n 1, 1) := by decide +kernel
theorem dX1_merge_1 : decode cX1_merge 1 = .ok (.iconst 1, 1) := by decide +kernel
theorem dX1_merge_2 : decode cX1_merge 2 = .ok (.iadd, 1) := by decide +kernel
theorem dX1_merge_3 : decode cX1_merge 3 = .ok (.istore_n 2, 1) := by decide +kernel
theorem dX1_merge_4 : decode cX1_merge 4 = .ok (.iload_n 2, 1) := by decide +kernel
theorem dX1_merge_5 : decode cX1_merge 5 = .ok (.aload_n 0, 1) := by decide +kernel
theorem dX1_merge_6 : decode cX1_merge 6 = .ok (.getfield 32, 3) := by decide +kernel
theorem dX1_merge_9 : decode cX1_merge 9 = .ok (.getfield 37, 3) := by decide +kernel
theorem dX1_merge_12 : decode cX1_merge 12 = .ok (.if_icmp .ge 67, 3) := by decide +kernel
theorem dX1_merge_15 : decode cX1_merge 15 = .ok (.aload_n 0, 1) := by decide +kernel
theorem dX1_merge_16 : decode cX1_merge 16 = .ok (.getfield 32, 3) := by decide +kernel
theorem dX1_merge_19 : decode cX1_merge 19 = .ok (.getfield 75, 3) := by decide +kernel
theorem dX1_merge_22 : decode cX1_merge 22 = .ok (.iload_n 1, 1) := by decide +kernel
theorem dX1_merge_23 : decode cX1_merge 23 = .ok (.iaload, 1) := by decide +kernel
theorem dX1_merge_24 : decode cX1_merge 24 = .ok (.aload_n 0, 1) := by decide +kernel
theorem dX1_merge_25 : decode cX1_merge 25 = .ok (.getfield 32, 3) := by decide +kernel
theorem dX1_merge_28 : decode cX1_merge 28 = .ok (.getfield 75, 3) := by decide +kernel
theorem dX1_merge_31 : decode cX1_merge 31 = .ok (.iload_n 2, 1) := by decide +kernel
theorem dX1_merge_32 : decode cX1_merge 32 = .ok (.iaload, 1) := by decide +kernel
theorem dX1_merge_33 : decode cX1_merge 33 = .ok (.if_icmp .ne 46, 3) := by decide +kernel
theorem dX1_merge_36 : decode cX1_merge 36 = .ok (.aload_n 0, 1) := by decide +kernel
theorem dX1_merge_37 : decode cX1_merge 37 = .ok (.iload_n 1, 1) := by decide +kernel
theorem dX1_merge_38 : decode cX1_merge 38 = .ok (.invokevirtual 181, 3) := by decide +kernel
theorem dX1_merge_41 : decode cX1_merge 41 = .ok (.ifCond .eq 38, 3) := by decide +kernel
theorem dX1_merge_44 : decode cX1_merge 44 = .ok (.aload_n 0, 1) := by decide +kernel
theorem dX1_merge_45 : decode cX1_merge 45 = .ok (.iload_n 2, 1) := by decide +kernel
theorem dX1_merge_46 : decode cX1_merge 46 = .ok (.invokevirtual 181, 3) := by decide +kernel
theorem dX1_merge_49 : decode cX1_merge 49 = .ok (.ifCond .eq 30, 3) := by decide +kernel
theorem dX1_merge_52 : decode cX1_merge 52 = .ok (.aload_n 0, 1) := by decide +kernel
theorem dX1_merge_53 : decode cX1_merge 53 = .ok (.getfield 12, 3) := by decide +kernel
theorem dX1_merge_56 : decode cX1_merge 56 = .ok (.iload_n 1, 1) := by decide +kernel
theorem dX1_merge_57 : decode cX1_merge 57 = .ok (.invokevirtual 156, 3) := by decide +kernel
theorem dX1_merge_60 : decode cX1_merge 60 = .ok (.aload_n 0, 1) := by decide +kernel
theorem dX1_merge_61 : decode cX1_merge 61 = .ok (.getfield 12, 3) := by decide +kernel
theorem dX1_merge_64 : decode cX1_merge 64 = .ok (.iload_n 2, 1) := by decide +kernel
theorem dX1_merge_65 : decode cX1_merge 65 = .ok (.invokevirtual 156, 3) := by decide +kernel
theorem dX1_merge_68 : decode cX1_merge 68 = .ok (.iadd, 1) := by decide +kernel
theorem dX1_merge_69 : decode cX1_merge 69 = .ok (.aload_n 0, 1) := by decide +kernel
theorem dX1_merge_70 : decode cX1_merge 70 = .ok (.getfield 22, 3) := by decide +kernel
theorem dX1_merge_73 : decode cX1_merge 73 = .ok (.getfield 159, 3) := by decide +kernel
theorem dX1_merge_76 : decode cX1_merge 76 = .ok (.if_icmp .le 5, 3) := by decide +kernel
theorem dX1_merge_79 : decode cX1_merge 79 = .ok (.iconst 0, 1) := by decide +kernel
theorem dX1_merge_80 : decode cX1_merge 80 = .ok (.ireturn, 1) := by decide +kernel
theorem dX1_merge_81 : decode cX1_merge 81 = .ok (.aload_n 0, 1) := by decide +kernel
theorem dX1_merge_82 : decode cX1_merge 82 = .ok (.getfield 32, 3) := by decide +kernel
theorem dX1_merge_85 : decode cX1_merge 85 = .ok (.iload_n 1, 1) := by decide +kernel
theorem dX1_merge_86 : decode cX1_merge 86 = .ok (.invokevirtual 184, 3) := by decide +kernel
theorem dX1_merge_89 : decode cX1_merge 89 = .ok (.iconst 1, 1) := by decide +kernel
theorem dX1_merge_90 : decode cX1_merge 90 = .ok (.ireturn, 1) := by decide +kernel
theorem dX1_isCold_0 : decode cX1_isCold 0 = .ok (.aload_n 0, 1) := by decide +kernel
theorem dX1_isCold_1 : decode cX1_isCold 1 = .ok (.getfield 32, 3) := by decide +kernel
theorem dX1_isCold_4 : decode cX1_isCold 4 = .ok (.iload_n 1, 1) := by decide +kernel
theorem dX1_isCold_5 : decode cX1_isCold 5 = .ok (.invokevirtual 113, 3) := by decide +kernel
theorem dX1_isCold_8 : decode cX1_isCold 8 = .ok (.ifCond .ne 54, 3) := by decide +kernel
theorem dX1_isCold_11 : decode cX1_isCold 11 = .ok (.aload_n 0, 1) := by decide +kernel
theorem dX1_isCold_12 : decode cX1_isCold 12 = .ok (.getfield 12, 3) := by decide +kernel
theorem dX1_isCold_15 : decode cX1_isCold 15 = .ok (.iload_n 1, 1) := by decide +kernel
theorem dX1_isCold_16 : decode cX1_isCold 16 = .ok (.invokevirtual 116, 3) := by decide +kernel
theorem dX1_isCold_19 : decode cX1_isCold 19 = .ok (.ifCond .eq 43, 3) := by decide +kernel
theorem dX1_isCold_22 : decode cX1_isCold 22 = .ok (.aload_n 0, 1) := by decide +kernel
theorem dX1_isCold_23 : decode cX1_isCold 23 = .ok (.getfield 12, 3) := by decide +kernel
theorem dX1_isCold_26 : decode cX1_isCold 26 = .ok (.iload_n 1, 1) := by decide +kernel
theorem dX1_isCold_27 : decode cX1_isCold 27 = .ok (.invokevirtual 156, 3) := by decide +kernel
theorem dX1_isCold_30 : decode cX1_isCold 30 = .ok (.aload_n 0, 1) := by decide +kernel
theorem dX1_isCold_31 : decode cX1_isCold 31 = .ok (.getfield 22, 3) := by decide +kernel
theorem dX1_isCold_34 : decode cX1_isCold 34 = .ok (.getfield 187, 3) := by decide +kernel
theorem dX1_isCold_37 : decode cX1_isCold 37 = .ok (.if_icmp .ge 25, 3) := by decide +kernel
theorem dX1_isCold_40 : decode cX1_isCold 40 = .ok (.aload_n 0, 1) := by decide +kernel
theorem dX1_isCold_41 : decode cX1_isCold 41 = .ok (.getfield 12, 3) := by decide +kernel
theorem dX1_isCold_44 : decode cX1_isCold 44 = .ok (.iload_n 1, 1) := by decide +kernel
theorem dX1_isCold_45 : decode cX1_isCold 45 = .ok (.invokevirtual 168, 3) := by decide +kernel
theorem dX1_isCold_48 : decode cX1_isCold 48 = .ok (.aload_n 0, 1) := by decide +kernel
theorem dX1_isCold_49 : decode cX1_isCold 49 = .ok (.getfield 22, 3) := by decide +kernel
theorem dX1_isCold_52 : decode cX1_isCold 52 = .ok (.getfield 190, 3) := by decide +kernel
theorem dX1_isCold_55 : decode cX1_isCold 55 = .ok (.if_icmp .ge 7, 3) := by decide +kernel
theorem dX1_isCold_58 : decode cX1_isCold 58 = .ok (.iconst 1, 1) := by decide +kernel
theorem dX1_isCold_59 : decode cX1_isCold 59 = .ok (.goto 4, 3) := by decide +kernel
theorem dX1_isCold_62 : decode cX1_isCold 62 = .ok (.iconst 0, 1) := by decide +kernel
theorem dX1_isCold_63 : decode cX1_isCold 63 = .ok (.ireturn, 1) := by decide +kernel
theorem dX1_shiftLeader_0 : decode cX1_shiftLeader 0 = .ok (.aload_n 0, 1) := by decide +kernel
theorem dX1_shiftLeader_1 : decode cX1_shiftLeader 1 = .ok (.getfield 32, 3) := by decide +kernel
theorem dX1_shiftLeader_4 : decode cX1_shiftLeader 4 = .ok (.getfield 63, 3) := by decide +kernel
theorem dX1_shiftLeader_7 : decode cX1_shiftLeader 7 = .ok (.iload_n 1, 1) := by decide +kernel
theorem dX1_shiftLeader_8 : decode cX1_shiftLeader 8 = .ok (.iaload, 1) := by decide +kernel
theorem dX1_shiftLeader_9 : decode cX1_shiftLeader 9 = .ok (.istore_n 2, 1) := by decide +kernel
theorem dX1_shiftLeader_10 : decode cX1_shiftLeader 10 = .ok (.iload_n 2, 1) := by decide +kernel
theorem dX1_shiftLeader_11 : decode cX1_shiftLeader 11 = .ok (.iconst (-1), 1) := by decide +kernel
theorem dX1_shiftLeader_12 : decode cX1_shiftLeader 12 = .ok (.if_icmp .ne 5, 3) := by decide +kernel
theorem dX1_shiftLeader_15 : decode cX1_shiftLeader 15 = .ok (.iconst 0, 1) := by decide +kernel
theorem dX1_shiftLeader_16 : decode cX1_shiftLeader 16 = .ok (.ireturn, 1) := by decide +kernel
theorem dX1_shiftLeader_17 : decode cX1_shiftLeader 17 = .ok (.aload_n 0, 1) := by decide +kernel
theorem dX1_shiftLeader_18 : decode cX1_shiftLeader 18 = .ok (.getfield 12, 3) := by decide +kernel
theorem dX1_shiftLeader_21 : decode cX1_shiftLeader 21 = .ok (.aload_n 0, 1) := by decide +kernel
theorem dX1_shiftLeader_22 : decode cX1_shiftLeader 22 = .ok (.getfield 12, 3) := by decide +kernel
theorem dX1_shiftLeader_25 : decode cX1_shiftLeader 25 = .ok (.iload_n 1, 1) := by decide +kernel
theorem dX1_shiftLeader_26 : decode cX1_shiftLeader 26 = .ok (.invokevirtual 119, 3) := by decide +kernel
theorem dX1_shiftLeader_29 : decode cX1_shiftLeader 29 = .ok (.invokevirtual 193, 3) := by decide +kernel
theorem dX1_shiftLeader_32 : decode cX1_shiftLeader 32 = .ok (.istore_n 3, 1) := by decide +kernel
theorem dX1_shiftLeader_33 : decode cX1_shiftLeader 33 = .ok (.iload_n 3, 1) := by decide +kernel
theorem dX1_shiftLeader_34 : decode cX1_shiftLeader 34 = .ok (.iconst (-1), 1) := by decide +kernel
theorem dX1_shiftLeader_35 : decode cX1_shiftLeader 35 = .ok (.if_icmp .eq 24, 3) := by decide +kernel
theorem dX1_shiftLeader_38 : decode cX1_shiftLeader 38 = .ok (.aload_n 0, 1) := by decide +kernel
theorem dX1_shiftLeader_39 : decode cX1_shiftLeader 39 = .ok (.getfield 32, 3) := by decide +kernel
theorem dX1_shiftLeader_42 : decode cX1_shiftLeader 42 = .ok (.iload_n 3, 1) := by decide +kernel
theorem dX1_shiftLeader_43 : decode cX1_shiftLeader 43 = .ok (.invokevirtual 196, 3) := by decide +kernel
theorem dX1_shiftLeader_46 : decode cX1_shiftLeader 46 = .ok (.iconst 2, 1) := by decide +kernel
theorem dX1_shiftLeader_47 : decode cX1_shiftLeader 47 = .ok (.iadd, 1) := by decide +kernel
theorem dX1_shiftLeader_48 : decode cX1_shiftLeader 48 = .ok (.aload_n 0, 1) := by decide +kernel
theorem dX1_shiftLeader_49 : decode cX1_shiftLeader 49 = .ok (.getfield 32, 3) := by decide +kernel
theorem dX1_shiftLeader_52 : decode cX1_shiftLeader 52 = .ok (.iload_n 2, 1) := by decide +kernel
theorem dX1_shiftLeader_53 : decode cX1_shiftLeader 53 = .ok (.invokevirtual 196, 3) := by decide +kernel
theorem dX1_shiftLeader_56 : decode cX1_shiftLeader 56 = .ok (.if_icmp .le 5, 3) := by decide +kernel
theorem dX1_shiftLeader_59 : decode cX1_shiftLeader 59 = .ok (.iconst 0, 1) := by decide +kernel
theorem dX1_shiftLeader_60 : decode cX1_shiftLeader 60 = .ok (.ireturn, 1) := by decide +kernel
theorem dX1_shiftLeader_61 : decode cX1_shiftLeader 61 = .ok (.aload_n 0, 1) := by decide +kernel
theorem dX1_shiftLeader_62 : decode cX1_shiftLeader 62 = .ok (.getfield 32, 3) := by decide +kernel
theorem dX1_shiftLeader_65 : decode cX1_shiftLeader 65 = .ok (.getfield 63, 3) := by decide +kernel
theorem dX1_shiftLeader_68 : decode cX1_shiftLeader 68 = .ok (.iload_n 1, 1) := by decide +kernel
theorem dX1_shiftLeader_69 : decode cX1_shiftLeader 69 = .ok (.iload_n 3, 1) := by decide +kernel
theorem dX1_shiftLeader_70 : decode cX1_shiftLeader 70 = .ok (.iastore, 1) := by decide +kernel
theorem dX1_shiftLeader_71 : decode cX1_shiftLeader 71 = .ok (.iconst 1, 1) := by decide +kernel
theorem dX1_shiftLeader_72 : decode cX1_shiftLeader 72 = .ok (.ireturn, 1) := by decide +kernel
theorem dX1_shiftReplica_0 : decode cX1_shiftReplica 0 = .ok (.aload_n 0, 1) := by decide +kernel
theorem dX1_shiftReplica_1 : decode cX1_shiftReplica 1 = .ok (.iload_n 1, 1) := by decide +kernel
theorem dX1_shiftReplica_2 : decode cX1_shiftReplica 2 = .ok (.invokevirtual 142, 3) := by decide +kernel
theorem dX1_shiftReplica_5 : decode cX1_shiftReplica 5 = .ok (.ifCond .ne 5, 3) := by decide +kernel
theorem dX1_shiftReplica_8 : decode cX1_shiftReplica 8 = .ok (.iconst 0, 1) := by decide +kernel
theorem dX1_shiftReplica_9 : decode cX1_shiftReplica 9 = .ok (.ireturn, 1) := by decide +kernel
theorem dX1_shiftReplica_10 : decode cX1_shiftReplica 10 = .ok (.aload_n 0, 1) := by decide +kernel
theorem dX1_shiftReplica_11 : decode cX1_shiftReplica 11 = .ok (.aload_n 0, 1) := by decide +kernel
theorem dX1_shiftReplica_12 : decode cX1_shiftReplica 12 = .ok (.getfield 32, 3) := by decide +kernel
theorem dX1_shiftReplica_15 : decode cX1_shiftReplica 15 = .ok (.getfield 75, 3) := by decide +kernel
theorem dX1_shiftReplica_18 : decode cX1_shiftReplica 18 = .ok (.iload_n 1, 1) := by decide +kernel
theorem dX1_shiftReplica_19 : decode cX1_shiftReplica 19 = .ok (.iaload, 1) := by decide +kernel
theorem dX1_shiftReplica_20 : decode cX1_shiftReplica 20 = .ok (.invokevirtual 199, 3) := by decide +kernel
theorem dX1_shiftReplica_23 : decode cX1_shiftReplica 23 = .ok (.istore_n 2, 1) := by decide +kernel
theorem dX1_shiftReplica_24 : decode cX1_shiftReplica 24 = .ok (.aload_n 0, 1) := by decide +kernel
theorem dX1_shiftReplica_25 : decode cX1_shiftReplica 25 = .ok (.iload_n 1, 1) := by decide +kernel
theorem dX1_shiftReplica_26 : decode cX1_shiftReplica 26 = .ok (.iload_n 2, 1) := by decide +kernel
theorem dX1_shiftReplica_27 : decode cX1_shiftReplica 27 = .ok (.invokevirtual 109, 3) := by decide +kernel
theorem dX1_shiftReplica_30 : decode cX1_shiftReplica 30 = .ok (.istore_n 3, 1) := by decide +kernel
theorem dX1_shiftReplica_31 : decode cX1_shiftReplica 31 = .ok (.aload_n 0, 1) := by decide +kernel
theorem dX1_shiftReplica_32 : decode cX1_shiftReplica 32 = .ok (.getfield 27, 3) := by decide +kernel
theorem dX1_shiftReplica_35 : decode cX1_shiftReplica 35 = .ok (.iload_n 2, 1) := by decide +kernel
theorem dX1_shiftReplica_36 : decode cX1_shiftReplica 36 = .ok (.invokevirtual 202, 3) := by decide +kernel
theorem dX1_shiftReplica_39 : decode cX1_shiftReplica 39 = .ok (.ifCond .eq 35, 3) := by decide +kernel
theorem dX1_shiftReplica_42 : decode cX1_shiftReplica 42 = .ok (.aload_n 0, 1) := by decide +kernel
theorem dX1_shiftReplica_43 : decode cX1_shiftReplica 43 = .ok (.getfield 27, 3) := by decide +kernel
theorem dX1_shiftReplica_46 : decode cX1_shiftReplica 46 = .ok (.iload_n 3, 1) := by decide +kernel
theorem dX1_shiftReplica_47 : decode cX1_shiftReplica 47 = .ok (.invokevirtual 202, 3) := by decide +kernel
theorem dX1_shiftReplica_50 : decode cX1_shiftReplica 50 = .ok (.ifCond .eq 24, 3) := by decide +kernel
theorem dX1_shiftReplica_53 : decode cX1_shiftReplica 53 = .ok (.aload_n 0, 1) := by decide +kernel
theorem dX1_shiftReplica_54 : decode cX1_shiftReplica 54 = .ok (.getfield 32, 3) := by decide +kernel
theorem dX1_shiftReplica_57 : decode cX1_shiftReplica 57 = .ok (.iload_n 3, 1) := by decide +kernel
theorem dX1_shiftReplica_58 : decode cX1_shiftReplica 58 = .ok (.invokevirtual 205, 3) := by decide +kernel
theorem dX1_shiftReplica_61 : decode cX1_shiftReplica 61 = .ok (.iconst 2, 1) := by decide +kernel
theorem dX1_shiftReplica_62 : decode cX1_shiftReplica 62 = .ok (.iadd, 1) := by decide +kernel
theorem dX1_shiftReplica_63 : decode cX1_shiftReplica 63 = .ok (.aload_n 0, 1) := by decide +kernel
theorem dX1_shiftReplica_64 : decode cX1_shiftReplica 64 = .ok (.getfield 32, 3) := by decide +kernel
theorem dX1_shiftReplica_67 : decode cX1_shiftReplica 67 = .ok (.iload_n 2, 1) := by decide +kernel
theorem dX1_shiftReplica_68 : decode cX1_shiftReplica 68 = .ok (.invokevirtual 205, 3) := by decide +kernel
theorem dX1_shiftReplica_71 : decode cX1_shiftReplica 71 = .ok (.if_icmp .le 5, 3) := by decide +kernel
theorem dX1_shiftReplica_74 : decode cX1_shiftReplica 74 = .ok (.iconst 0, 1) := by decide +kernel
theorem dX1_shiftReplica_75 : decode cX1_shiftReplica 75 = .ok (.ireturn, 1) := by decide +kernel
theorem dX1_shiftReplica_76 : decode cX1_shiftReplica 76 = .ok (.aload_n 0, 1) := by decide +kernel
theorem dX1_shiftReplica_77 : decode cX1_shiftReplica 77 = .ok (.iload_n 1, 1) := by decide +kernel
theorem dX1_shiftReplica_78 : decode cX1_shiftReplica 78 = .ok (.iload_n 2, 1) := by decide +kernel
theorem dX1_shiftReplica_79 : decode cX1_shiftReplica 79 = .ok (.iload_n 3, 1) := by decide +kernel
theorem dX1_shiftReplica_80 : decode cX1_shiftReplica 80 = .ok (.invokevirtual 148, 3) := by decide +kernel
theorem dX1_shiftReplica_83 : decode cX1_shiftReplica 83 = .ok (.ifCond .ne 26, 3) := by decide +kernel
theorem dX1_shiftReplica_86 : decode cX1_shiftReplica 86 = .ok (.aload_n 0, 1) := by decide +kernel
theorem dX1_shiftReplica_87 : decode cX1_shiftReplica 87 = .ok (.getfield 27, 3) := by decide +kernel
theorem dX1_shiftReplica_90 : decode cX1_shiftReplica 90 = .ok (.getfield 208, 3) := by decide +kernel
theorem dX1_shiftReplica_93 : decode cX1_shiftReplica 93 = .ok (.iload_n 3, 1) := by decide +kernel
theorem dX1_shiftReplica_94 : decode cX1_shiftReplica 94 = .ok (.iaload, 1) := by decide +kernel
theorem dX1_shiftReplica_95 : decode cX1_shiftReplica 95 = .ok (.aload_n 0, 1) := by decide +kernel
theorem dX1_shiftReplica_96 : decode cX1_shiftReplica 96 = .ok (.getfield 27, 3) := by decide +kernel
theorem dX1_shiftReplica_99 : decode cX1_shiftReplica 99 = .ok (.getfield 208, 3) := by decide +kernel
theorem dX1_shiftReplica_102 : decode cX1_shiftReplica 102 = .ok (.iload_n 2, 1) := by decide +kernel
theorem dX1_shiftReplica_103 : decode cX1_shiftReplica 103 = .ok (.iaload, 1) := by decide +kernel
theorem dX1_shiftReplica_104 : decode cX1_shiftReplica 104 = .ok (.if_icmp .eq 5, 3) := by decide +kernel
theorem dX1_shiftReplica_107 : decode cX1_shiftReplica 107 = .ok (.iconst 0, 1) := by decide +kernel
theorem dX1_shiftReplica_108 : decode cX1_shiftReplica 108 = .ok (.ireturn, 1) := by decide +kernel
theorem dX1_shiftReplica_109 : decode cX1_shiftReplica 109 = .ok (.aload_n 0, 1) := by decide +kernel
theorem dX1_shiftReplica_110 : decode cX1_shiftReplica 110 = .ok (.iload_n 1, 1) := by decide +kernel
theorem dX1_shiftReplica_111 : decode cX1_shiftReplica 111 = .ok (.iload_n 3, 1) := by decide +kernel
theorem dX1_shiftReplica_112 : decode cX1_shiftReplica 112 = .ok (.iload_n 2, 1) := by decide +kernel
theorem dX1_shiftReplica_113 : decode cX1_shiftReplica 113 = .ok (.invokevirtual 138, 3) := by decide +kernel
theorem dX1_shiftReplica_116 : decode cX1_shiftReplica 116 = .ok (.iconst 1, 1) := by decide +kernel
theorem dX1_shiftReplica_117 : decode cX1_shiftReplica 117 = .ok (.ireturn, 1) := by decide +kernel
theorem dX1_isWhole_0 : decode cX1_isWhole 0 = .ok (.aload_n 0, 1) := by decide +kernel
theorem dX1_isWhole_1 : decode cX1_isWhole 1 = .ok (.getfield 32, 3) := by decide +kernel
theorem dX1_isWhole_4 : decode cX1_isWhole 4 = .ok (.iload_n 1, 1) := by decide +kernel
theorem dX1_isWhole_5 : decode cX1_isWhole 5 = .ok (.invokevirtual 113, 3) := by decide +kernel
theorem dX1_isWhole_8 : decode cX1_isWhole 8 = .ok (.ifCond .ne 29, 3) := by decide +kernel
theorem dX1_isWhole_11 : decode cX1_isWhole 11 = .ok (.aload_n 0, 1) := by decide +kernel
theorem dX1_isWhole_12 : decode cX1_isWhole 12 = .ok (.getfield 12, 3) := by decide +kernel
theorem dX1_isWhole_15 : decode cX1_isWhole 15 = .ok (.iload_n 1, 1) := by decide +kernel
theorem dX1_isWhole_16 : decode cX1_isWhole 16 = .ok (.invokevirtual 132, 3) := by decide +kernel
theorem dX1_isWhole_19 : decode cX1_isWhole 19 = .ok (.ifCond .ne 18, 3) := by decide +kernel
theorem dX1_isWhole_22 : decode cX1_isWhole 22 = .ok (.aload_n 0, 1) := by decide +kernel
theorem dX1_isWhole_23 : decode cX1_isWhole 23 = .ok (.getfield 12, 3) := by decide +kernel
theorem dX1_isWhole_26 : decode cX1_isWhole 26 = .ok (.iload_n 1, 1) := by decide +kernel
theorem dX1_isWhole_27 : decode cX1_isWhole 27 = .ok (.invokevirtual 116, 3) := by decide +kernel
theorem dX1_isWhole_30 : decode cX1_isWhole 30 = .ok (.ifCond .eq 7, 3) := by decide +kernel
theorem dX1_isWhole_33 : decode cX1_isWhole 33 = .ok (.iconst 1, 1) := by decide +kernel
theorem dX1_isWhole_34 : decode cX1_isWhole 34 = .ok (.goto 4, 3) := by decide +kernel
theorem dX1_isWhole_37 : decode cX1_isWhole 37 = .ok (.iconst 0, 1) := by decide +kernel
theorem dX1_isWhole_38 : decode cX1_isWhole 38 = .ok (.ireturn, 1) := by decide +kernel
theorem dX1_teach_0 : decode cX1_teach 0 = .ok (.aload_n 0, 1) := by decide +kernel
theorem dX1_teach_1 : decode cX1_teach 1 = .ok (.getfield 32, 3) := by decide +kernel
theorem dX1_teach_4 : decode cX1_teach 4 = .ok (.iload_n 1, 1) := by decide +kernel
theorem dX1_teach_5 : decode cX1_teach 5 = .ok (.iload_n 2, 1) := by decide +kernel
theorem dX1_teach_6 : decode cX1_teach 6 = .ok (.aload_n 0, 1) := by decide +kernel
theorem dX1_teach_7 : decode cX1_teach 7 = .ok (.getfield 22, 3) := by decide +kernel
theorem dX1_teach_10 : decode cX1_teach 10 = .ok (.aload_n 0, 1) := by decide +kernel
theorem dX1_teach_11 : decode cX1_teach 11 = .ok (.getfield 12, 3) := by decide +kernel
theorem dX1_teach_14 : decode cX1_teach 14 = .ok (.iload_n 1, 1) := by decide +kernel
theorem dX1_teach_15 : decode cX1_teach 15 = .ok (.invokevirtual 156, 3) := by decide +kernel
theorem dX1_teach_18 : decode cX1_teach 18 = .ok (.invokevirtual 211, 3) := by decide +kernel
theorem dX1_teach_21 : decode cX1_teach 21 = .ok (.iload_n 3, 1) := by decide +kernel
theorem dX1_teach_22 : decode cX1_teach 22 = .ok (.invokevirtual 214, 3) := by decide +kernel
theorem dX1_teach_25 : decode cX1_teach 25 = .ok (.return_, 1) := by decide +kernel
theorem dX1_choose_0 : decode cX1_choose 0 = .ok (.aload_n 0, 1) := by decide +kernel
theorem dX1_choose_1 : decode cX1_choose 1 = .ok (.getfield 32, 3) := by decide +kernel
theorem dX1_choose_4 : decode cX1_choose 4 = .ok (.getfield 75, 3) := by decide +kernel
theorem dX1_choose_7 : decode cX1_choose 7 = .ok (.iload_n 1, 1) := by decide +kernel
theorem dX1_choose_8 : decode cX1_choose 8 = .ok (.iaload, 1) := by decide +kernel
theorem dX1_choose_9 : decode cX1_choose 9 = .ok (.aload_n 0, 1) := by decide +kernel
theorem dX1_choose_10 : decode cX1_choose 10 = .ok (.getfield 32, 3) := by decide +kernel
theorem dX1_choose_13 : decode cX1_choose 13 = .ok (.getfield 54, 3) := by decide +kernel
theorem dX1_choose_16 : decode cX1_choose 16 = .ok (.iload_n 1, 1) := by decide +kernel
theorem dX1_choose_17 : decode cX1_choose 17 = .ok (.iaload, 1) := by decide +kernel
theorem dX1_choose_18 : decode cX1_choose 18 = .ok (.invokestatic 78, 3) := by decide +kernel
theorem dX1_choose_21 : decode cX1_choose 21 = .ok (.ior, 1) := by decide +kernel
theorem dX1_choose_22 : decode cX1_choose 22 = .ok (.istore_n 3, 1) := by decide +kernel
theorem dX1_choose_23 : decode cX1_choose 23 = .ok (.aload_n 0, 1) := by decide +kernel
theorem dX1_choose_24 : decode cX1_choose 24 = .ok (.getfield 27, 3) := by decide +kernel
theorem dX1_choose_27 : decode cX1_choose 27 = .ok (.getfield 218, 3) := by decide +kernel
theorem dX1_choose_30 : decode cX1_choose 30 = .ok (.iload_n 3, 1) := by decide +kernel
theorem dX1_choose_31 : decode cX1_choose 31 = .ok (.iconst (-1), 1) := by decide +kernel
theorem dX1_choose_32 : decode cX1_choose 32 = .ok (.ixor, 1) := by decide +kernel
theorem dX1_choose_33 : decode cX1_choose 33 = .ok (.iand, 1) := by decide +kernel
theorem dX1_choose_34 : decode cX1_choose 34 = .ok (.istore 4, 2) := by decide +kernel
theorem dX1_choose_36 : decode cX1_choose 36 = .ok (.iconst (-1), 1) := by decide +kernel
theorem dX1_choose_37 : decode cX1_choose 37 = .ok (.istore 5, 2) := by decide +kernel
theorem dX1_choose_39 : decode cX1_choose 39 = .ok (.iconst 0, 1) := by decide +kernel
theorem dX1_choose_40 : decode cX1_choose 40 = .ok (.istore 6, 2) := by decide +kernel
theorem dX1_choose_42 : decode cX1_choose 42 = .ok (.iconst 0, 1) := by decide +kernel
theorem dX1_choose_43 : decode cX1_choose 43 = .ok (.istore 7, 2) := by decide +kernel
theorem dX1_choose_45 : decode cX1_choose 45 = .ok (.iload 7, 2) := by decide +kernel
theorem dX1_choose_47 : decode cX1_choose 47 = .ok (.aload_n 0, 1) := by decide +kernel
theorem dX1_choose_48 : decode cX1_choose 48 = .ok (.getfield 27, 3) := by decide +kernel
theorem dX1_choose_51 : decode cX1_choose 51 = .ok (.getfield 221, 3) := by decide +kernel
theorem dX1_choose_54 : decode cX1_choose 54 = .ok (.if_icmp .ge 92, 3) := by decide +kernel
theorem dX1_choose_57 : decode cX1_choose 57 = .ok (.aload_n 0, 1) := by decide +kernel
theorem dX1_choose_58 : decode cX1_choose 58 = .ok (.getfield 32, 3) := by decide +kernel
theorem dX1_choose_61 : decode cX1_choose 61 = .ok (.iload 7, 2) := by decide +kernel
theorem dX1_choose_63 : decode cX1_choose 63 = .ok (.invokevirtual 205, 3) := by decide +kernel
theorem dX1_choose_66 : decode cX1_choose 66 = .ok (.istore 8, 2) := by decide +kernel
theorem dX1_choose_68 : decode cX1_choose 68 = .ok (.iload 4, 2) := by decide +kernel
theorem dX1_choose_70 : decode cX1_choose 70 = .ok (.iload 7, 2) := by decide +kernel
theorem dX1_choose_72 : decode cX1_choose 72 = .ok (.invokestatic 78, 3) := by decide +kernel
theorem dX1_choose_75 : decode cX1_choose 75 = .ok (.iand, 1) := by decide +kernel
theorem dX1_choose_76 : decode cX1_choose 76 = .ok (.ifCond .eq 64, 3) := by decide +kernel
theorem dX1_choose_79 : decode cX1_choose 79 = .ok (.iload 8, 2) := by decide +kernel
theorem dX1_choose_81 : decode cX1_choose 81 = .ok (.aload_n 0, 1) := by decide +kernel
theorem dX1_choose_82 : decode cX1_choose 82 = .ok (.getfield 27, 3) := by decide +kernel
theorem dX1_choose_85 : decode cX1_choose 85 = .ok (.getfield 222, 3) := by decide +kernel
theorem dX1_choose_88 : decode cX1_choose 88 = .ok (.iload 7, 2) := by decide +kernel
theorem dX1_choose_90 : decode cX1_choose 90 = .ok (.iaload, 1) := by decide +kernel
theorem dX1_choose_91 : decode cX1_choose 91 = .ok (.if_icmp .ge 49, 3) := by decide +kernel
theorem dX1_choose_94 : decode cX1_choose 94 = .ok (.aload_n 0, 1) := by decide +kernel
theorem dX1_choose_95 : decode cX1_choose 95 = .ok (.iload_n 1, 1) := by decide +kernel
theorem dX1_choose_96 : decode cX1_choose 96 = .ok (.iload_n 2, 1) := by decide +kernel
theorem dX1_choose_97 : decode cX1_choose 97 = .ok (.iload 7, 2) := by decide +kernel
theorem dX1_choose_99 : decode cX1_choose 99 = .ok (.invokevirtual 148, 3) := by decide +kernel
theorem dX1_choose_102 : decode cX1_choose 102 = .ok (.ifCond .eq 8, 3) := by decide +kernel
theorem dX1_choose_105 : decode cX1_choose 105 = .ok (.iload 8, 2) := by decide +kernel
theorem dX1_choose_107 : decode cX1_choose 107 = .ok (.goto 10, 3) := by decide +kernel
theorem dX1_choose_110 : decode cX1_choose 110 = .ok (.iload 8, 2) := by decide +kernel
theorem dX1_choose_112 : decode cX1_choose 112 = .ok (.bipush 16, 2) := by decide +kernel
theorem dX1_choose_114 : decode cX1_choose 114 = .ok (.iadd, 1) := by decide +kernel
theorem dX1_choose_115 : decode cX1_choose 115 = .ok (.iconst 1, 1) := by decide +kernel
theorem dX1_choose_116 : decode cX1_choose 116 = .ok (.iadd, 1) := by decide +kernel
theorem dX1_choose_117 : decode cX1_choose 117 = .ok (.istore 9, 2) := by decide +kernel
theorem dX1_choose_119 : decode cX1_choose 119 = .ok (.iload 5, 2) := by decide +kernel
theorem dX1_choose_121 : decode cX1_choose 121 = .ok (.iconst (-1), 1) := by decide +kernel
theorem dX1_choose_122 : decode cX1_choose 122 = .ok (.if_icmp .eq 10, 3) := by decide +kernel
theorem dX1_choose_125 : decode cX1_choose 125 = .ok (.iload 9, 2) := by decide +kernel
theorem dX1_choose_127 : decode cX1_choose 127 = .ok (.iload 6, 2) := by decide +kernel
theorem dX1_choose_129 : decode cX1_choose 129 = .ok (.if_icmp .ge 11, 3) := by decide +kernel
theorem dX1_choose_132 : decode cX1_choose 132 = .ok (.iload 7, 2) := by decide +kernel
theorem dX1_choose_134 : decode cX1_choose 134 = .ok (.istore 5, 2) := by decide +kernel
theorem dX1_choose_136 : decode cX1_choose 136 = .ok (.iload 9, 2) := by decide +kernel
theorem dX1_choose_138 : decode cX1_choose 138 = .ok (.istore 6, 2) := by decide +kernel
theorem dX1_choose_140 : decode cX1_choose 140 = .ok (.iinc 7 1, 3) := by decide +kernel
theorem dX1_choose_143 : decode cX1_choose 143 = .ok (.goto (-98), 3) := by decide +kernel
theorem dX1_choose_146 : decode cX1_choose 146 = .ok (.iload 5, 2) := by decide +kernel
theorem dX1_choose_148 : decode cX1_choose 148 = .ok (.ireturn, 1) := by decide +kernel
theorem dX1_isFresh_0 : decode cX1_isFresh 0 = .ok (.aload_n 0, 1) := by decide +kernel
theorem dX1_isFresh_1 : decode cX1_isFresh 1 = .ok (.getfield 32, 3) := by decide +kernel
theorem dX1_isFresh_4 : decode cX1_isFresh 4 = .ok (.getfield 75, 3) := by decide +kernel
theorem dX1_isFresh_7 : decode cX1_isFresh 7 = .ok (.iload_n 1, 1) := by decide +kernel
theorem dX1_isFresh_8 : decode cX1_isFresh 8 = .ok (.iaload, 1) := by decide +kernel
theorem dX1_isFresh_9 : decode cX1_isFresh 9 = .ok (.iload_n 2, 1) := by decide +kernel
theorem dX1_isFresh_10 : decode cX1_isFresh 10 = .ok (.invokestatic 78, 3) := by decide +kernel
theorem dX1_isFresh_13 : decode cX1_isFresh 13 = .ok (.iconst (-1), 1) := by decide +kernel
theorem dX1_isFresh_14 : decode cX1_isFresh 14 = .ok (.ixor, 1) := by decide +kernel
theorem dX1_isFresh_15 : decode cX1_isFresh 15 = .ok (.iand, 1) := by decide +kernel
theorem dX1_isFresh_16 : decode cX1_isFresh 16 = .ok (.istore 4, 2) := by decide +kernel
theorem dX1_isFresh_18 : decode cX1_isFresh 18 = .ok (.aload_n 0, 1) := by decide +kernel
theorem dX1_isFresh_19 : decode cX1_isFresh 19 = .ok (.getfield 27, 3) := by decide +kernel
theorem dX1_isFresh_22 : decode cX1_isFresh 22 = .ok (.iload 4, 2) := by decide +kernel
theorem dX1_isFresh_24 : decode cX1_isFresh 24 = .ok (.invokevirtual 225, 3) := by decide +kernel
theorem dX1_isFresh_27 : decode cX1_isFresh 27 = .ok (.aload_n 0, 1) := by decide +kernel
theorem dX1_isFresh_28 : decode cX1_isFresh 28 = .ok (.getfield 27, 3) := by decide +kernel
theorem dX1_isFresh_31 : decode cX1_isFresh 31 = .ok (.iload_n 3, 1) := by decide +kernel
theorem dX1_isFresh_32 : decode cX1_isFresh 32 = .ok (.invokestatic 78, 3) := by decide +kernel
theorem dX1_isFresh_35 : decode cX1_isFresh 35 = .ok (.invokevirtual 225, 3) := by decide +kernel
theorem dX1_isFresh_38 : decode cX1_isFresh 38 = .ok (.iand, 1) := by decide +kernel
theorem dX1_isFresh_39 : decode cX1_isFresh 39 = .ok (.ifCond .ne 7, 3) := by decide +kernel
theorem dX1_isFresh_42 : decode cX1_isFresh 42 = .ok (.iconst 1, 1) := by decide +kernel
theorem dX1_isFresh_43 : decode cX1_isFresh 43 = .ok (.goto 4, 3) := by decide +kernel
theorem dX1_isFresh_46 : decode cX1_isFresh 46 = .ok (.iconst 0, 1) := by decide +kernel
theorem dX1_isFresh_47 : decode cX1_isFresh 47 = .ok (.ireturn, 1) := by decide +kernel
theorem dX1_lowestOf_0 : decode cX1_lowestOf 0 = .ok (.iconst 0, 1) := by decide +kernel
theorem dX1_lowestOf_1 : decode cX1_lowestOf 1 = .ok (.istore_n 2, 1) := by decide +kernel
theorem dX1_lowestOf_2 : decode cX1_lowestOf 2 = .ok (.iload_n 2, 1) := by decide +kernel
theorem dX1_lowestOf_3 : decode cX1_lowestOf 3 = .ok (.aload_n 0, 1) := by decide +kernel
theorem dX1_lowestOf_4 : decode cX1_lowestOf 4 = .ok (.getfield 27, 3) := by decide +kernel
theorem dX1_lowestOf_7 : decode cX1_lowestOf 7 = .ok (.getfield 221, 3) := by decide +kernel
theorem dX1_lowestOf_10 : decode cX1_lowestOf 10 = .ok (.if_icmp .ge 20, 3) := by decide +kernel
theorem dX1_lowestOf_13 : decode cX1_lowestOf 13 = .ok (.iload_n 1, 1) := by decide +kernel
theorem dX1_lowestOf_14 : decode cX1_lowestOf 14 = .ok (.iload_n 2, 1) := by decide +kernel
theorem dX1_lowestOf_15 : decode cX1_lowestOf 15 = .ok (.invokestatic 78, 3) := by decide +kernel
theorem dX1_lowestOf_18 : decode cX1_lowestOf 18 = .ok (.iand, 1) := by decide +kernel
theorem dX1_lowestOf_19 : decode cX1_lowestOf 19 = .ok (.ifCond .eq 5, 3) := by decide +kernel
theorem dX1_lowestOf_22 : decode cX1_lowestOf 22 = .ok (.iload_n 2, 1) := by decide +kernel
theorem dX1_lowestOf_23 : decode cX1_lowestOf 23 = .ok (.ireturn, 1) := by decide +kernel
theorem dX1_lowestOf_24 : decode cX1_lowestOf 24 = .ok (.iinc 2 1, 3) := by decide +kernel
theorem dX1_lowestOf_27 : decode cX1_lowestOf 27 = .ok (.goto (-25), 3) := by decide +kernel
theorem dX1_lowestOf_30 : decode cX1_lowestOf 30 = .ok (.iconst (-1), 1) := by decide +kernel
theorem dX1_lowestOf_31 : decode cX1_lowestOf 31 = .ok (.ireturn, 1) := by decide +kernel
theorem dX1_highestSharingZone_0 : decode cX1_highestSharingZone 0 = .ok (.aload_n 0, 1) := by decide +kernel
theorem dX1_highestSharingZone_1 : decode cX1_highestSharingZone 1 = .ok (.getfield 27, 3) := by decide +kernel
theorem dX1_highestSharingZone_4 : decode cX1_highestSharingZone 4 = .ok (.getfield 221, 3) := by decide +kernel
theorem dX1_highestSharingZone_7 : decode cX1_highestSharingZone 7 = .ok (.iconst 1, 1) := by decide +kernel
theorem dX1_highestSharingZone_8 : decode cX1_highestSharingZone 8 = .ok (.isub, 1) := by decide +kernel
theorem dX1_highestSharingZone_9 : decode cX1_highestSharingZone 9 = .ok (.istore_n 2, 1) := by decide +kernel
theorem dX1_highestSharingZone_10 : decode cX1_highestSharingZone 10 = .ok (.iload_n 2, 1) := by decide +kernel
theorem dX1_highestSharingZone_11 : decode cX1_highestSharingZone 11 = .ok (.ifCond .lt 46, 3) := by decide +kernel
theorem dX1_highestSharingZone_14 : decode cX1_highestSharingZone 14 = .ok (.iload_n 2, 1) := by decide +kernel
theorem dX1_highestSharingZone_15 : decode cX1_highestSharingZone 15 = .ok (.invokestatic 78, 3) := by decide +kernel
theorem dX1_highestSharingZone_18 : decode cX1_highestSharingZone 18 = .ok (.istore_n 3, 1) := by decide +kernel
theorem dX1_highestSharingZone_19 : decode cX1_highestSharingZone 19 = .ok (.iload_n 1, 1) := by decide +kernel
theorem dX1_highestSharingZone_20 : decode cX1_highestSharingZone 20 = .ok (.iload_n 3, 1) := by decide +kernel
theorem dX1_highestSharingZone_21 : decode cX1_highestSharingZone 21 = .ok (.iand, 1) := by decide +kernel
theorem dX1_highestSharingZone_22 : decode cX1_highestSharingZone 22 = .ok (.ifCond .eq 29, 3) := by decide +kernel
theorem dX1_highestSharingZone_25 : decode cX1_highestSharingZone 25 = .ok (.aload_n 0, 1) := by decide +kernel
theorem dX1_highestSharingZone_26 : decode cX1_highestSharingZone 26 = .ok (.getfield 27, 3) := by decide +kernel
theorem dX1_highestSharingZone_29 : decode cX1_highestSharingZone 29 = .ok (.iload_n 1, 1) := by decide +kernel
theorem dX1_highestSharingZone_30 : decode cX1_highestSharingZone 30 = .ok (.iload_n 3, 1) := by decide +kernel
theorem dX1_highestSharingZone_31 : decode cX1_highestSharingZone 31 = .ok (.iconst (-1), 1) := by decide +kernel
theorem dX1_highestSharingZone_32 : decode cX1_highestSharingZone 32 = .ok (.ixor, 1) := by decide +kernel
theorem dX1_highestSharingZone_33 : decode cX1_highestSharingZone 33 = .ok (.iand, 1) := by decide +kernel
theorem dX1_highestSharingZone_34 : decode cX1_highestSharingZone 34 = .ok (.invokevirtual 225, 3) := by decide +kernel
theorem dX1_highestSharingZone_37 : decode cX1_highestSharingZone 37 = .ok (.aload_n 0, 1) := by decide +kernel
theorem dX1_highestSharingZone_38 : decode cX1_highestSharingZone 38 = .ok (.getfield 27, 3) := by decide +kernel
theorem dX1_highestSharingZone_41 : decode cX1_highestSharingZone 41 = .ok (.iload_n 3, 1) := by decide +kernel
theorem dX1_highestSharingZone_42 : decode cX1_highestSharingZone 42 = .ok (.invokevirtual 225, 3) := by decide +kernel
theorem dX1_highestSharingZone_45 : decode cX1_highestSharingZone 45 = .ok (.iand, 1) := by decide +kernel
theorem dX1_highestSharingZone_46 : decode cX1_highestSharingZone 46 = .ok (.ifCond .eq 5, 3) := by decide +kernel
theorem dX1_highestSharingZone_49 : decode cX1_highestSharingZone 49 = .ok (.iload_n 2, 1) := by decide +kernel
theorem dX1_highestSharingZone_50 : decode cX1_highestSharingZone 50 = .ok (.ireturn, 1) := by decide +kernel
theorem dX1_highestSharingZone_51 : decode cX1_highestSharingZone 51 = .ok (.iinc 2 (-1), 3) := by decide +kernel
theorem dX1_highestSharingZone_54 : decode cX1_highestSharingZone 54 = .ok (.goto (-44), 3) := by decide +kernel
theorem dX1_highestSharingZone_57 : decode cX1_highestSharingZone 57 = .ok (.iconst (-1), 1) := by decide +kernel
theorem dX1_highestSharingZone_58 : decode cX1_highestSharingZone 58 = .ok (.ireturn, 1) := by decide +kernel
theorem dX1_mostLoaded_0 : decode cX1_mostLoaded 0 = .ok (.iconst (-1), 1) := by decide +kernel
theorem dX1_mostLoaded_1 : decode cX1_mostLoaded 1 = .ok (.istore_n 2, 1) := by decide +kernel
theorem dX1_mostLoaded_2 : decode cX1_mostLoaded 2 = .ok (.iconst (-1), 1) := by decide +kernel
theorem dX1_mostLoaded_3 : decode cX1_mostLoaded 3 = .ok (.istore_n 3, 1) := by decide +kernel
theorem dX1_mostLoaded_4 : decode cX1_mostLoaded 4 = .ok (.iconst 0, 1) := by decide +kernel
theorem dX1_mostLoaded_5 : decode cX1_mostLoaded 5 = .ok (.istore 4, 2) := by decide +kernel
theorem dX1_mostLoaded_7 : decode cX1_mostLoaded 7 = .ok (.iload 4, 2) := by decide +kernel
theorem dX1_mostLoaded_9 : decode cX1_mostLoaded 9 = .ok (.aload_n 0, 1) := by decide +kernel
theorem dX1_mostLoaded_10 : decode cX1_mostLoaded 10 = .ok (.getfield 27, 3) := by decide +kernel
theorem dX1_mostLoaded_13 : decode cX1_mostLoaded 13 = .ok (.getfield 221, 3) := by decide +kernel
theorem dX1_mostLoaded_16 : decode cX1_mostLoaded 16 = .ok (.if_icmp .ge 45, 3) := by decide +kernel
theorem dX1_mostLoaded_19 : decode cX1_mostLoaded 19 = .ok (.iload_n 1, 1) := by decide +kernel
theorem dX1_mostLoaded_20 : decode cX1_mostLoaded 20 = .ok (.iload 4, 2) := by decide +kernel
theorem dX1_mostLoaded_22 : decode cX1_mostLoaded 22 = .ok (.invokestatic 78, 3) := by decide +kernel
theorem dX1_mostLoaded_25 : decode cX1_mostLoaded 25 = .ok (.iand, 1) := by decide +kernel
theorem dX1_mostLoaded_26 : decode cX1_mostLoaded 26 = .ok (.ifCond .eq 29, 3) := by decide +kernel
theorem dX1_mostLoaded_29 : decode cX1_mostLoaded 29 = .ok (.aload_n 0, 1) := by decide +kernel
theorem dX1_mostLoaded_30 : decode cX1_mostLoaded 30 = .ok (.getfield 32, 3) := by decide +kernel
theorem dX1_mostLoaded_33 : decode cX1_mostLoaded 33 = .ok (.iload 4, 2) := by decide +kernel
theorem dX1_mostLoaded_35 : decode cX1_mostLoaded 35 = .ok (.invokevirtual 205, 3) := by decide +kernel
theorem dX1_mostLoaded_38 : decode cX1_mostLoaded 38 = .ok (.iload_n 3, 1) := by decide +kernel
theorem dX1_mostLoaded_39 : decode cX1_mostLoaded 39 = .ok (.if_icmp .le 16, 3) := by decide +kernel
theorem dX1_mostLoaded_42 : decode cX1_mostLoaded 42 = .ok (.iload 4, 2) := by decide +kernel
theorem dX1_mostLoaded_44 : decode cX1_mostLoaded 44 = .ok (.istore_n 2, 1) := by decide +kernel
theorem dX1_mostLoaded_45 : decode cX1_mostLoaded 45 = .ok (.aload_n 0, 1) := by decide +kernel
theorem dX1_mostLoaded_46 : decode cX1_mostLoaded 46 = .ok (.getfield 32, 3) := by decide +kernel
theorem dX1_mostLoaded_49 : decode cX1_mostLoaded 49 = .ok (.iload 4, 2) := by decide +kernel
theorem dX1_mostLoaded_51 : decode cX1_mostLoaded 51 = .ok (.invokevirtual 205, 3) := by decide +kernel
theorem dX1_mostLoaded_54 : decode cX1_mostLoaded 54 = .ok (.istore_n 3, 1) := by decide +kernel
theorem dX1_mostLoaded_55 : decode cX1_mostLoaded 55 = .ok (.iinc 4 1, 3) := by decide +kernel
theorem dX1_mostLoaded_58 : decode cX1_mostLoaded 58 = .ok (.goto (-51), 3) := by decide +kernel
theorem dX1_mostLoaded_61 : decode cX1_mostLoaded 61 = .ok (.iload_n 2, 1) := by decide +kernel
theorem dX1_mostLoaded_62 : decode cX1_mostLoaded 62 = .ok (.ireturn, 1) := by decide +kernel
theorem dX2_init_0 : decode cX2_init 0 = .ok (.aload_n 0, 1) := by decide +kernel
theorem dX2_init_1 : decode cX2_init 1 = .ok (.invokespecial 3, 3) := by decide +kernel
theorem dX2_init_4 : decode cX2_init 4 = .ok (.aload_n 0, 1) := by decide +kernel
theorem dX2_init_5 : decode cX2_init 5 = .ok (.iconst 4, 1) := by decide +kernel
theorem dX2_init_6 : decode cX2_init 6 = .ok (.anewarray 9, 3) := by decide +kernel
theorem dX2_init_9 : decode cX2_init 9 = .ok (.putfield 11, 3) := by decide +kernel
theorem dX2_init_12 : decode cX2_init 12 = .ok (.iconst 0, 1) := by decide +kernel
theorem dX2_init_13 : decode cX2_init 13 = .ok (.istore_n 1, 1) := by decide +kernel
theorem dX2_init_14 : decode cX2_init 14 = .ok (.iload_n 1, 1) := by decide +kernel
theorem dX2_init_15 : decode cX2_init 15 = .ok (.iconst 4, 1) := by decide +kernel
theorem dX2_init_16 : decode cX2_init 16 = .ok (.if_icmp .ge 22, 3) := by decide +kernel
theorem dX2_init_19 : decode cX2_init 19 = .ok (.aload_n 0, 1) := by decide +kernel
theorem dX2_init_20 : decode cX2_init 20 = .ok (.getfield 11, 3) := by decide +kernel
theorem dX2_init_23 : decode cX2_init 23 = .ok (.iload_n 1, 1) := by decide +kernel
theorem dX2_init_24 : decode cX2_init 24 = .ok (.new 9, 3) := by decide +kernel
theorem dX2_init_27 : decode cX2_init 27 = .ok (.dup, 1) := by decide +kernel
theorem dX2_init_28 : decode cX2_init 28 = .ok (.invokespecial 17, 3) := by decide +kernel
theorem dX2_init_31 : decode cX2_init 31 = .ok (.aastore, 1) := by decide +kernel
theorem dX2_init_32 : decode cX2_init 32 = .ok (.iinc 1 1, 3) := by decide +kernel
theorem dX2_init_35 : decode cX2_init 35 = .ok (.goto (-21), 3) := by decide +kernel
theorem dX2_init_38 : decode cX2_init 38 = .ok (.return_, 1) := by decide +kernel
theorem dX2_save_0 : decode cX2_save 0 = .ok (.aload_n 0, 1) := by decide +kernel
theorem dX2_save_1 : decode cX2_save 1 = .ok (.getfield 11, 3) := by decide +kernel
theorem dX2_save_4 : decode cX2_save 4 = .ok (.aload_n 0, 1) := by decide +kernel
theorem dX2_save_5 : decode cX2_save 5 = .ok (.getfield 18, 3) := by decide +kernel
theorem dX2_save_8 : decode cX2_save 8 = .ok (.aaload, 1) := by decide +kernel
theorem dX2_save_9 : decode cX2_save 9 = .ok (.astore_n 2, 1) := by decide +kernel
theorem dX2_save_10 : decode cX2_save 10 = .ok (.aload_n 2, 1) := by decide +kernel
theorem dX2_save_11 : decode cX2_save 11 = .ok (.ifnonnull 4, 3) := by decide +kernel
theorem dX2_save_14 : decode cX2_save 14 = .ok (.return_, 1) := by decide +kernel
theorem dX2_save_15 : decode cX2_save 15 = .ok (.aload_n 2, 1) := by decide +kernel
theorem dX2_save_16 : decode cX2_save 16 = .ok (.aload_n 1, 1) := by decide +kernel
theorem dX2_save_17 : decode cX2_save 17 = .ok (.invokevirtual 22, 3) := by decide +kernel
theorem dX2_save_20 : decode cX2_save 20 = .ok (.aload_n 0, 1) := by decide +kernel
theorem dX2_save_21 : decode cX2_save 21 = .ok (.aload_n 0, 1) := by decide +kernel
theorem dX2_save_22 : decode cX2_save 22 = .ok (.getfield 18, 3) := by decide +kernel
theorem dX2_save_25 : decode cX2_save 25 = .ok (.iconst 1, 1) := by decide +kernel
theorem dX2_save_26 : decode cX2_save 26 = .ok (.iadd, 1) := by decide +kernel
theorem dX2_save_27 : decode cX2_save 27 = .ok (.iconst 4, 1) := by decide +kernel
theorem dX2_save_28 : decode cX2_save 28 = .ok (.irem, 1) := by decide +kernel
theorem dX2_save_29 : decode cX2_save 29 = .ok (.putfield 18, 3) := by decide +kernel
theorem dX2_save_32 : decode cX2_save 32 = .ok (.aload_n 0, 1) := by decide +kernel
theorem dX2_save_33 : decode cX2_save 33 = .ok (.aload_n 0, 1) := by decide +kernel
theorem dX2_save_34 : decode cX2_save 34 = .ok (.getfield 26, 3) := by decide +kernel
theorem dX2_save_37 : decode cX2_save 37 = .ok (.iconst 1, 1) := by decide +kernel
theorem dX2_save_38 : decode cX2_save 38 = .ok (.iadd, 1) := by decide +kernel
theorem dX2_save_39 : decode cX2_save 39 = .ok (.iconst 4, 1) := by decide +kernel
theorem dX2_save_40 : decode cX2_save 40 = .ok (.invokestatic 29, 3) := by decide +kernel
theorem dX2_save_43 : decode cX2_save 43 = .ok (.putfield 26, 3) := by decide +kernel
theorem dX2_save_46 : decode cX2_save 46 = .ok (.return_, 1) := by decide +kernel
theorem dX2_restoreInto_0 : decode cX2_restoreInto 0 = .ok (.aload_n 0, 1) := by decide +kernel
theorem dX2_restoreInto_1 : decode cX2_restoreInto 1 = .ok (.getfield 18, 3) := by decide +kernel
theorem dX2_restoreInto_4 : decode cX2_restoreInto 4 = .ok (.iconst 4, 1) := by decide +kernel
theorem dX2_restoreInto_5 : decode cX2_restoreInto 5 = .ok (.iadd, 1) := by decide +kernel
theorem dX2_restoreInto_6 : decode cX2_restoreInto 6 = .ok (.iconst 1, 1) := by decide +kernel
theorem dX2_restoreInto_7 : decode cX2_restoreInto 7 = .ok (.isub, 1) := by decide +kernel
theorem dX2_restoreInto_8 : decode cX2_restoreInto 8 = .ok (.iconst 4, 1) := by decide +kernel
theorem dX2_restoreInto_9 : decode cX2_restoreInto 9 = .ok (.irem, 1) := by decide +kernel
theorem dX2_restoreInto_10 : decode cX2_restoreInto 10 = .ok (.istore_n 2, 1) := by decide +kernel
theorem dX2_restoreInto_11 : decode cX2_restoreInto 11 = .ok (.aload_n 0, 1) := by decide +kernel
theorem dX2_restoreInto_12 : decode cX2_restoreInto 12 = .ok (.getfield 11, 3) := by decide +kernel
theorem dX2_restoreInto_15 : decode cX2_restoreInto 15 = .ok (.iload_n 2, 1) := by decide +kernel
theorem dX2_restoreInto_16 : decode cX2_restoreInto 16 = .ok (.aaload, 1) := by decide +kernel
theorem dX2_restoreInto_17 : decode cX2_restoreInto 17 = .ok (.astore_n 3, 1) := by decide +kernel
theorem dX2_restoreInto_18 : decode cX2_restoreInto 18 = .ok (.aload_n 3, 1) := by decide +kernel
theorem dX2_restoreInto_19 : decode cX2_restoreInto 19 = .ok (.ifnull 10, 3) := by decide +kernel
theorem dX2_restoreInto_22 : decode cX2_restoreInto 22 = .ok (.aload_n 0, 1) := by decide +kernel
theorem dX2_restoreInto_23 : decode cX2_restoreInto 23 = .ok (.getfield 26, 3) := by decide +kernel
theorem dX2_restoreInto_26 : decode cX2_restoreInto 26 = .ok (.ifCond .ne 4, 3) := by decide +kernel
theorem dX2_restoreInto_29 : decode cX2_restoreInto 29 = .ok (.return_, 1) := by decide +kernel
theorem dX2_restoreInto_30 : decode cX2_restoreInto 30 = .ok (.aload_n 1, 1) := by decide +kernel
theorem dX2_restoreInto_31 : decode cX2_restoreInto 31 = .ok (.aload_n 3, 1) := by decide +kernel
theorem dX2_restoreInto_32 : decode cX2_restoreInto 32 = .ok (.invokevirtual 22, 3) := by decide +kernel
theorem dX2_restoreInto_35 : decode cX2_restoreInto 35 = .ok (.aload_n 0, 1) := by decide +kernel
theorem dX2_restoreInto_36 : decode cX2_restoreInto 36 = .ok (.iload_n 2, 1) := by decide +kernel
theorem dX2_restoreInto_37 : decode cX2_restoreInto 37 = .ok (.putfield 18, 3) := by decide +kernel
theorem dX2_restoreInto_40 : decode cX2_restoreInto 40 = .ok (.aload_n 0, 1) := by decide +kernel
theorem dX2_restoreInto_41 : decode cX2_restoreInto 41 = .ok (.dup, 1) := by decide +kernel
theorem dX2_restoreInto_42 : decode cX2_restoreInto 42 = .ok (.getfield 26, 3) := by decide +kernel
theorem dX2_restoreInto_45 : decode cX2_restoreInto 45 = .ok (.iconst 1, 1) := by decide +kernel
theorem dX2_restoreInto_46 : decode cX2_restoreInto 46 = .ok (.isub, 1) := by decide +kernel
theorem dX2_restoreInto_47 : decode cX2_restoreInto 47 = .ok (.putfield 26, 3) := by decide +kernel
theorem dX2_restoreInto_50 : decode cX2_restoreInto 50 = .ok (.return_, 1) := by decide +kernel
theorem dX3_init_0 : decode cX3_init 0 = .ok (.aload_n 0, 1) := by decide +kernel
theorem dX3_init_1 : decode cX3_init 1 = .ok (.invokespecial 3, 3) := by decide +kernel
theorem dX3_init_4 : decode cX3_init 4 = .ok (.aload_n 0, 1) := by decide +kernel
theorem dX3_init_5 : decode cX3_init 5 = .ok (.bipush 64, 2) := by decide +kernel
theorem dX3_init_7 : decode cX3_init 7 = .ok (.newarray .int, 2) := by decide +kernel
theorem dX3_init_9 : decode cX3_init 9 = .ok (.putfield 9, 3) := by decide +kernel
theorem dX3_init_12 : decode cX3_init 12 = .ok (.aload_n 0, 1) := by decide +kernel
theorem dX3_init_13 : decode cX3_init 13 = .ok (.bipush 64, 2) := by decide +kernel
theorem dX3_init_15 : decode cX3_init 15 = .ok (.newarray .int, 2) := by decide +kernel
theorem dX3_init_17 : decode cX3_init 17 = .ok (.putfield 15, 3) := by decide +kernel
theorem dX3_init_20 : decode cX3_init 20 = .ok (.return_, 1) := by decide +kernel
theorem dX3_placeOf_0 : decode cX3_placeOf 0 = .ok (.iconst 0, 1) := by decide +kernel
theorem dX3_placeOf_1 : decode cX3_placeOf 1 = .ok (.istore_n 2, 1) := by decide +kernel
theorem dX3_placeOf_2 : decode cX3_placeOf 2 = .ok (.iload_n 2, 1) := by decide +kernel
theorem dX3_placeOf_3 : decode cX3_placeOf 3 = .ok (.aload_n 0, 1) := by decide +kernel
theorem dX3_placeOf_4 : decode cX3_placeOf 4 = .ok (.getfield 18, 3) := by decide +kernel
theorem dX3_placeOf_7 : decode cX3_placeOf 7 = .ok (.if_icmp .ge 19, 3) := by decide +kernel
theorem dX3_placeOf_10 : decode cX3_placeOf 10 = .ok (.aload_n 0, 1) := by decide +kernel
theorem dX3_placeOf_11 : decode cX3_placeOf 11 = .ok (.getfield 9, 3) := by decide +kernel
theorem dX3_placeOf_14 : decode cX3_placeOf 14 = .ok (.iload_n 2, 1) := by decide +kernel
theorem dX3_placeOf_15 : decode cX3_placeOf 15 = .ok (.iaload, 1) := by decide +kernel
theorem dX3_placeOf_16 : decode cX3_placeOf 16 = .ok (.iload_n 1, 1) := by decide +kernel
theorem dX3_placeOf_17 : decode cX3_placeOf 17 = .ok (.if_icmp .ge 9, 3) := by decide +kernel
theorem dX3_placeOf_20 : decode cX3_placeOf 20 = .ok (.iinc 2 1, 3) := by decide +kernel
theorem dX3_placeOf_23 : decode cX3_placeOf 23 = .ok (.goto (-21), 3) := by decide +kernel
theorem dX3_placeOf_26 : decode cX3_placeOf 26 = .ok (.iload_n 2, 1) := by decide +kernel
theorem dX3_placeOf_27 : decode cX3_placeOf 27 = .ok (.ireturn, 1) := by decide +kernel
theorem dX3_isAt_0 : decode cX3_isAt 0 = .ok (.iload_n 1, 1) := by decide +kernel
theorem dX3_isAt_1 : decode cX3_isAt 1 = .ok (.aload_n 0, 1) := by decide +kernel
theorem dX3_isAt_2 : decode cX3_isAt 2 = .ok (.getfield 18, 3) := by decide +kernel
theorem dX3_isAt_5 : decode cX3_isAt 5 = .ok (.if_icmp .ge 17, 3) := by decide +kernel
theorem dX3_isAt_8 : decode cX3_isAt 8 = .ok (.aload_n 0, 1) := by decide +kernel
theorem dX3_isAt_9 : decode cX3_isAt 9 = .ok (.getfield 9, 3) := by decide +kernel
theorem dX3_isAt_12 : decode cX3_isAt 12 = .ok (.iload_n 1, 1) := by decide +kernel
theorem dX3_isAt_13 : decode cX3_isAt 13 = .ok (.iaload, 1) := by decide +kernel
theorem dX3_isAt_14 : decode cX3_isAt 14 = .ok (.iload_n 2, 1) := by decide +kernel
theorem dX3_isAt_15 : decode cX3_isAt 15 = .ok (.if_icmp .ne 7, 3) := by decide +kernel
theorem dX3_isAt_18 : decode cX3_isAt 18 = .ok (.iconst 1, 1) := by decide +kernel
theorem dX3_isAt_19 : decode cX3_isAt 19 = .ok (.goto 4, 3) := by decide +kernel
theorem dX3_isAt_22 : decode cX3_isAt 22 = .ok (.iconst 0, 1) := by decide +kernel
theorem dX3_isAt_23 : decode cX3_isAt 23 = .ok (.ireturn, 1) := by decide +kernel
theorem dX3_sizeAt_0 : decode cX3_sizeAt 0 = .ok (.aload_n 0, 1) := by decide +kernel
theorem dX3_sizeAt_1 : decode cX3_sizeAt 1 = .ok (.iload_n 1, 1) := by decide +kernel
theorem dX3_sizeAt_2 : decode cX3_sizeAt 2 = .ok (.invokevirtual 22, 3) := by decide +kernel
theorem dX3_sizeAt_5 : decode cX3_sizeAt 5 = .ok (.istore_n 2, 1) := by decide +kernel
theorem dX3_sizeAt_6 : decode cX3_sizeAt 6 = .ok (.aload_n 0, 1) := by decide +kernel
theorem dX3_sizeAt_7 : decode cX3_sizeAt 7 = .ok (.iload_n 2, 1) := by decide +kernel
theorem dX3_sizeAt_8 : decode cX3_sizeAt 8 = .ok (.iload_n 1, 1) := by decide +kernel
theorem dX3_sizeAt_9 : decode cX3_sizeAt 9 = .ok (.invokevirtual 26, 3) := by decide +kernel
theorem dX3_sizeAt_12 : decode cX3_sizeAt 12 = .ok (.ifCond .eq 12, 3) := by decide +kernel
theorem dX3_sizeAt_15 : decode cX3_sizeAt 15 = .ok (.aload_n 0, 1) := by decide +kernel
theorem dX3_sizeAt_16 : decode cX3_sizeAt 16 = .ok (.getfield 15, 3) := by decide +kernel
theorem dX3_sizeAt_19 : decode cX3_sizeAt 19 = .ok (.iload_n 2, 1) := by decide +kernel
theorem dX3_sizeAt_20 : decode cX3_sizeAt 20 = .ok (.iaload, 1) := by decide +kernel
theorem dX3_sizeAt_21 : decode cX3_sizeAt 21 = .ok (.goto 4, 3) := by decide +kernel
theorem dX3_sizeAt_24 : decode cX3_sizeAt 24 = .ok (.iconst 0, 1) := by decide +kernel
theorem dX3_sizeAt_25 : decode cX3_sizeAt 25 = .ok (.ireturn, 1) := by decide +kernel
theorem dX3_store_0 : decode cX3_store 0 = .ok (.aload_n 0, 1) := by decide +kernel
theorem dX3_store_1 : decode cX3_store 1 = .ok (.iload_n 1, 1) := by decide +kernel
theorem dX3_store_2 : decode cX3_store 2 = .ok (.invokevirtual 22, 3) := by decide +kernel
theorem dX3_store_5 : decode cX3_store 5 = .ok (.istore_n 3, 1) := by decide +kernel
theorem dX3_store_6 : decode cX3_store 6 = .ok (.aload_n 0, 1) := by decide +kernel
theorem dX3_store_7 : decode cX3_store 7 = .ok (.iload_n 3, 1) := by decide +kernel
theorem dX3_store_8 : decode cX3_store 8 = .ok (.iload_n 1, 1) := by decide +kernel
theorem dX3_store_9 : decode cX3_store 9 = .ok (.invokevirtual 26, 3) := by decide +kernel
theorem dX3_store_12 : decode cX3_store 12 = .ok (.ifCond .ne 72, 3) := by decide +kernel
theorem dX3_store_15 : decode cX3_store 15 = .ok (.aload_n 0, 1) := by decide +kernel
theorem dX3_store_16 : decode cX3_store 16 = .ok (.getfield 18, 3) := by decide +kernel
theorem dX3_store_19 : decode cX3_store 19 = .ok (.bipush 64, 2) := by decide +kernel
theorem dX3_store_21 : decode cX3_store 21 = .ok (.if_icmp .lt 4, 3) := by decide +kernel
theorem dX3_store_24 : decode cX3_store 24 = .ok (.return_, 1) := by decide +kernel
theorem dX3_store_25 : decode cX3_store 25 = .ok (.aload_n 0, 1) := by decide +kernel
theorem dX3_store_26 : decode cX3_store 26 = .ok (.getfield 9, 3) := by decide +kernel
theorem dX3_store_29 : decode cX3_store 29 = .ok (.iload_n 3, 1) := by decide +kernel
theorem dX3_store_30 : decode cX3_store 30 = .ok (.aload_n 0, 1) := by decide +kernel
theorem dX3_store_31 : decode cX3_store 31 = .ok (.getfield 9, 3) := by decide +kernel
theorem dX3_store_34 : decode cX3_store 34 = .ok (.iload_n 3, 1) := by decide +kernel
theorem dX3_store_35 : decode cX3_store 35 = .ok (.iconst 1, 1) := by decide +kernel
theorem dX3_store_36 : decode cX3_store 36 = .ok (.iadd, 1) := by decide +kernel
theorem dX3_store_37 : decode cX3_store 37 = .ok (.aload_n 0, 1) := by decide +kernel
theorem dX3_store_38 : decode cX3_store 38 = .ok (.getfield 18, 3) := by decide +kernel
theorem dX3_store_41 : decode cX3_store 41 = .ok (.iload_n 3, 1) := by decide +kernel
theorem dX3_store_42 : decode cX3_store 42 = .ok (.isub, 1) := by decide +kernel
theorem dX3_store_43 : decode cX3_store 43 = .ok (.invokestatic 30, 3) := by decide +kernel
theorem dX3_store_46 : decode cX3_store 46 = .ok (.aload_n 0, 1) := by decide +kernel
theorem dX3_store_47 : decode cX3_store 47 = .ok (.getfield 15, 3) := by decide +kernel
theorem dX3_store_50 : decode cX3_store 50 = .ok (.iload_n 3, 1) := by decide +kernel
theorem dX3_store_51 : decode cX3_store 51 = .ok (.aload_n 0, 1) := by decide +kernel
theorem dX3_store_52 : decode cX3_store 52 = .ok (.getfield 15, 3) := by decide +kernel
theorem dX3_store_55 : decode cX3_store 55 = .ok (.iload_n 3, 1) := by decide +kernel
theorem dX3_store_56 : decode cX3_store 56 = .ok (.iconst 1, 1) := by decide +kernel
theorem dX3_store_57 : decode cX3_store 57 = .ok (.iadd, 1) := by decide +kernel
theorem dX3_store_58 : decode cX3_store 58 = .ok (.aload_n 0, 1) := by decide +kernel
theorem dX3_store_59 : decode cX3_store 59 = .ok (.getfield 18, 3) := by decide +kernel
theorem dX3_store_62 : decode cX3_store 62 = .ok (.iload_n 3, 1) := by decide +kernel
theorem dX3_store_63 : decode cX3_store 63 = .ok (.isub, 1) := by decide +kernel
theorem dX3_store_64 : decode cX3_store 64 = .ok (.invokestatic 30, 3) := by decide +kernel
theorem dX3_store_67 : decode cX3_store 67 = .ok (.aload_n 0, 1) := by decide +kernel
theorem dX3_store_68 : decode cX3_store 68 = .ok (.getfield 9, 3) := by decide +kernel
theorem dX3_store_71 : decode cX3_store 71 = .ok (.iload_n 3, 1) := by decide +kernel
theorem dX3_store_72 : decode cX3_store 72 = .ok (.iload_n 1, 1) := by decide +kernel
theorem dX3_store_73 : decode cX3_store 73 = .ok (.iastore, 1) := by decide +kernel
theorem dX3_store_74 : decode cX3_store 74 = .ok (.aload_n 0, 1) := by decide +kernel
theorem dX3_store_75 : decode cX3_store 75 = .ok (.dup, 1) := by decide +kernel
theorem dX3_store_76 : decode cX3_store 76 = .ok (.getfield 18, 3) := by decide +kernel
theorem dX3_store_79 : decode cX3_store 79 = .ok (.iconst 1, 1) := by decide +kernel
theorem dX3_store_80 : decode cX3_store 80 = .ok (.iadd, 1) := by decide +kernel
theorem dX3_store_81 : decode cX3_store 81 = .ok (.putfield 18, 3) := by decide +kernel
theorem dX3_store_84 : decode cX3_store 84 = .ok (.aload_n 0, 1) := by decide +kernel
theorem dX3_store_85 : decode cX3_store 85 = .ok (.getfield 15, 3) := by decide +kernel
theorem dX3_store_88 : decode cX3_store 88 = .ok (.iload_n 3, 1) := by decide +kernel
theorem dX3_store_89 : decode cX3_store 89 = .ok (.iload_n 2, 1) := by decide +kernel
theorem dX3_store_90 : decode cX3_store 90 = .ok (.iastore, 1) := by decide +kernel
theorem dX3_store_91 : decode cX3_store 91 = .ok (.return_, 1) := by decide +kernel
theorem dX3_erase_0 : decode cX3_erase 0 = .ok (.aload_n 0, 1) := by decide +kernel
theorem dX3_erase_1 : decode cX3_erase 1 = .ok (.iload_n 1, 1) := by decide +kernel
theorem dX3_erase_2 : decode cX3_erase 2 = .ok (.invokevirtual 22, 3) := by decide +kernel
theorem dX3_erase_5 : decode cX3_erase 5 = .ok (.istore_n 2, 1) := by decide +kernel
theorem dX3_erase_6 : decode cX3_erase 6 = .ok (.aload_n 0, 1) := by decide +kernel
theorem dX3_erase_7 : decode cX3_erase 7 = .ok (.iload_n 2, 1) := by decide +kernel
theorem dX3_erase_8 : decode cX3_erase 8 = .ok (.iload_n 1, 1) := by decide +kernel
theorem dX3_erase_9 : decode cX3_erase 9 = .ok (.invokevirtual 26, 3) := by decide +kernel
theorem dX3_erase_12 : decode cX3_erase 12 = .ok (.ifCond .ne 4, 3) := by decide +kernel
theorem dX3_erase_15 : decode cX3_erase 15 = .ok (.return_, 1) := by decide +kernel
theorem dX3_erase_16 : decode cX3_erase 16 = .ok (.aload_n 0, 1) := by decide +kernel
theorem dX3_erase_17 : decode cX3_erase 17 = .ok (.dup, 1) := by decide +kernel
theorem dX3_erase_18 : decode cX3_erase 18 = .ok (.getfield 18, 3) := by decide +kernel
theorem dX3_erase_21 : decode cX3_erase 21 = .ok (.iconst 1, 1) := by decide +kernel
theorem dX3_erase_22 : decode cX3_erase 22 = .ok (.isub, 1) := by decide +kernel
theorem dX3_erase_23 : decode cX3_erase 23 = .ok (.putfield 18, 3) := by decide +kernel
theorem dX3_erase_26 : decode cX3_erase 26 = .ok (.aload_n 0, 1) := by decide +kernel
theorem dX3_erase_27 : decode cX3_erase 27 = .ok (.getfield 9, 3) := by decide +kernel
theorem dX3_erase_30 : decode cX3_erase 30 = .ok (.iload_n 2, 1) := by decide +kernel
theorem dX3_erase_31 : decode cX3_erase 31 = .ok (.iconst 1, 1) := by decide +kernel
theorem dX3_erase_32 : decode cX3_erase 32 = .ok (.iadd, 1) := by decide +kernel
theorem dX3_erase_33 : decode cX3_erase 33 = .ok (.aload_n 0, 1) := by decide +kernel
theorem dX3_erase_34 : decode cX3_erase 34 = .ok (.getfield 9, 3) := by decide +kernel
theorem dX3_erase_37 : decode cX3_erase 37 = .ok (.iload_n 2, 1) := by decide +kernel
theorem dX3_erase_38 : decode cX3_erase 38 = .ok (.aload_n 0, 1) := by decide +kernel
theorem dX3_erase_39 : decode cX3_erase 39 = .ok (.getfield 18, 3) := by decide +kernel
theorem dX3_erase_42 : decode cX3_erase 42 = .ok (.iload_n 2, 1) := by decide +kernel
theorem dX3_erase_43 : decode cX3_erase 43 = .ok (.isub, 1) := by decide +kernel
theorem dX3_erase_44 : decode cX3_erase 44 = .ok (.invokestatic 30, 3) := by decide +kernel
theorem dX3_erase_47 : decode cX3_erase 47 = .ok (.aload_n 0, 1) := by decide +kernel
theorem dX3_erase_48 : decode cX3_erase 48 = .ok (.getfield 15, 3) := by decide +kernel
theorem dX3_erase_51 : decode cX3_erase 51 = .ok (.iload_n 2, 1) := by decide +kernel
theorem dX3_erase_52 : decode cX3_erase 52 = .ok (.iconst 1, 1) := by decide +kernel
theorem dX3_erase_53 : decode cX3_erase 53 = .ok (.iadd, 1) := by decide +kernel
theorem dX3_erase_54 : decode cX3_erase 54 = .ok (.aload_n 0, 1) := by decide +kernel
theorem dX3_erase_55 : decode cX3_erase 55 = .ok (.getfield 15, 3) := by decide +kernel
theorem dX3_erase_58 : decode cX3_erase 58 = .ok (.iload_n 2, 1) := by decide +kernel
theorem dX3_erase_59 : decode cX3_erase 59 = .ok (.aload_n 0, 1) := by decide +kernel
theorem dX3_erase_60 : decode cX3_erase 60 = .ok (.getfield 18, 3) := by decide +kernel
theorem dX3_erase_63 : decode cX3_erase 63 = .ok (.iload_n 2, 1) := by decide +kernel
theorem dX3_erase_64 : decode cX3_erase 64 = .ok (.isub, 1) := by decide +kernel
theorem dX3_erase_65 : decode cX3_erase 65 = .ok (.invokestatic 30, 3) := by decide +kernel
theorem dX3_erase_68 : decode cX3_erase 68 = .ok (.return_, 1) := by decide +kernel
theorem dX3_sumBetween_0 : decode cX3_sumBetween 0 = .ok (.iconst 0, 1) := by decide +kernel
theorem dX3_sumBetween_1 : decode cX3_sumBetween 1 = .ok (.istore_n 3, 1) := by decide +kernel
theorem dX3_sumBetween_2 : decode cX3_sumBetween 2 = .ok (.iconst 0, 1) := by decide +kernel
theorem dX3_sumBetween_3 : decode cX3_sumBetween 3 = .ok (.istore 4, 2) := by decide +kernel
theorem dX3_sumBetween_5 : decode cX3_sumBetween 5 = .ok (.iload 4, 2) := by decide +kernel
theorem dX3_sumBetween_7 : decode cX3_sumBetween 7 = .ok (.aload_n 0, 1) := by decide +kernel
theorem dX3_sumBetween_8 : decode cX3_sumBetween 8 = .ok (.getfield 18, 3) := by decide +kernel
theorem dX3_sumBetween_11 : decode cX3_sumBetween 11 = .ok (.if_icmp .ge 41, 3) := by decide +kernel
theorem dX3_sumBetween_14 : decode cX3_sumBetween 14 = .ok (.aload_n 0, 1) := by decide +kernel
theorem dX3_sumBetween_15 : decode cX3_sumBetween 15 = .ok (.getfield 9, 3) := by decide +kernel
theorem dX3_sumBetween_18 : decode cX3_sumBetween 18 = .ok (.iload 4, 2) := by decide +kernel
theorem dX3_sumBetween_20 : decode cX3_sumBetween 20 = .ok (.iaload, 1) := by decide +kernel
theorem dX3_sumBetween_21 : decode cX3_sumBetween 21 = .ok (.iload_n 1, 1) := by decide +kernel
theorem dX3_sumBetween_22 : decode cX3_sumBetween 22 = .ok (.if_icmp .lt 24, 3) := by decide +kernel
theorem dX3_sumBetween_25 : decode cX3_sumBetween 25 = .ok (.aload_n 0, 1) := by decide +kernel
theorem dX3_sumBetween_26 : decode cX3_sumBetween 26 = .ok (.getfield 9, 3) := by decide +kernel
theorem dX3_sumBetween_29 : decode cX3_sumBetween 29 = .ok (.iload 4, 2) := by decide +kernel
theorem dX3_sumBetween_31 : decode cX3_sumBetween 31 = .ok (.iaload, 1) := by decide +kernel
theorem dX3_sumBetween_32 : decode cX3_sumBetween 32 = .ok (.iload_n 2, 1) := by decide +kernel
theorem dX3_sumBetween_33 : decode cX3_sumBetween 33 = .ok (.if_icmp .ge 13, 3) := by decide +kernel
theorem dX3_sumBetween_36 : decode cX3_sumBetween 36 = .ok (.iload_n 3, 1) := by decide +kernel
theorem dX3_sumBetween_37 : decode cX3_sumBetween 37 = .ok (.aload_n 0, 1) := by decide +kernel
theorem dX3_sumBetween_38 : decode cX3_sumBetween 38 = .ok (.getfield 15, 3) := by decide +kernel
theorem dX3_sumBetween_41 : decode cX3_sumBetween 41 = .ok (.iload 4, 2) := by decide +kernel
theorem dX3_sumBetween_43 : decode cX3_sumBetween 43 = .ok (.iaload, 1) := by decide +kernel
theorem dX3_sumBetween_44 : decode cX3_sumBetween 44 = .ok (.iadd, 1) := by decide +kernel
theorem dX3_sumBetween_45 : decode cX3_sumBetween 45 = .ok (.istore_n 3, 1) := by decide +kernel
theorem dX3_sumBetween_46 : decode cX3_sumBetween 46 = .ok (.iinc 4 1, 3) := by decide +kernel
theorem dX3_sumBetween_49 : decode cX3_sumBetween 49 = .ok (.goto (-44), 3) := by decide +kernel
theorem dX3_sumBetween_52 : decode cX3_sumBetween 52 = .ok (.iload_n 3, 1) := by decide +kernel
theorem dX3_sumBetween_53 : decode cX3_sumBetween 53 = .ok (.ireturn, 1) := by decide +kernel
theorem dX3_splitKeyBetween_0 : decode cX3_splitKeyBetween 0 = .ok (.aload_n 0, 1) := by decide +kernel
theorem dX3_splitKeyBetween_1 : decode cX3_splitKeyBetween 1 = .ok (.iload_n 1, 1) := by decide +kernel
theorem dX3_splitKeyBetween_2 : decode cX3_splitKeyBetween 2 = .ok (.iload_n 2, 1) := by decide +kernel
theorem dX3_splitKeyBetween_3 : decode cX3_splitKeyBetween 3 = .ok (.invokevirtual 36, 3) := by decide +kernel
theorem dX3_splitKeyBetween_6 : decode cX3_splitKeyBetween 6 = .ok (.istore_n 3, 1) := by decide +kernel
theorem dX3_splitKeyBetween_7 : decode cX3_splitKeyBetween 7 = .ok (.aload_n 0, 1) := by decide +kernel
theorem dX3_splitKeyBetween_8 : decode cX3_splitKeyBetween 8 = .ok (.iload_n 1, 1) := by decide +kernel
theorem dX3_splitKeyBetween_9 : decode cX3_splitKeyBetween 9 = .ok (.invokevirtual 22, 3) := by decide +kernel
theorem dX3_splitKeyBetween_12 : decode cX3_splitKeyBetween 12 = .ok (.istore 4, 2) := by decide +kernel
theorem dX3_splitKeyBetween_14 : decode cX3_splitKeyBetween 14 = .ok (.iconst 0, 1) := by decide +kernel
theorem dX3_splitKeyBetween_15 : decode cX3_splitKeyBetween 15 = .ok (.istore 5, 2) := by decide +kernel
theorem dX3_splitKeyBetween_17 : decode cX3_splitKeyBetween 17 = .ok (.iconst (-1), 1) := by decide +kernel
theorem dX3_splitKeyBetween_18 : decode cX3_splitKeyBetween 18 = .ok (.istore 6, 2) := by decide +kernel
theorem dX3_splitKeyBetween_20 : decode cX3_splitKeyBetween 20 = .ok (.iload 4, 2) := by decide +kernel
theorem dX3_splitKeyBetween_22 : decode cX3_splitKeyBetween 22 = .ok (.istore 7, 2) := by decide +kernel
theorem dX3_splitKeyBetween_24 : decode cX3_splitKeyBetween 24 = .ok (.iload 7, 2) := by decide +kernel
theorem dX3_splitKeyBetween_26 : decode cX3_splitKeyBetween 26 = .ok (.aload_n 0, 1) := by decide +kernel
theorem dX3_splitKeyBetween_27 : decode cX3_splitKeyBetween 27 = .ok (.getfield 18, 3) := by decide +kernel
theorem dX3_splitKeyBetween_30 : decode cX3_splitKeyBetween 30 = .ok (.if_icmp .ge 59, 3) := by decide +kernel
theorem dX3_splitKeyBetween_33 : decode cX3_splitKeyBetween 33 = .ok (.aload_n 0, 1) := by decide +kernel
theorem dX3_splitKeyBetween_34 : decode cX3_splitKeyBetween 34 = .ok (.getfield 9, 3) := by decide +kernel
theorem dX3_splitKeyBetween_37 : decode cX3_splitKeyBetween 37 = .ok (.iload 7, 2) := by decide +kernel
theorem dX3_splitKeyBetween_39 : decode cX3_splitKeyBetween 39 = .ok (.iaload, 1) := by decide +kernel
theorem dX3_splitKeyBetween_40 : decode cX3_splitKeyBetween 40 = .ok (.iload_n 2, 1) := by decide +kernel
theorem dX3_splitKeyBetween_41 : decode cX3_splitKeyBetween 41 = .ok (.if_icmp .ge 48, 3) := by decide +kernel
theorem dX3_splitKeyBetween_44 : decode cX3_splitKeyBetween 44 = .ok (.iload 7, 2) := by decide +kernel
theorem dX3_splitKeyBetween_46 : decode cX3_splitKeyBetween 46 = .ok (.iload 4, 2) := by decide +kernel
theorem dX3_splitKeyBetween_48 : decode cX3_splitKeyBetween 48 = .ok (.if_icmp .le 23, 3) := by decide +kernel
theorem dX3_splitKeyBetween_51 : decode cX3_splitKeyBetween 51 = .ok (.aload_n 0, 1) := by decide +kernel
theorem dX3_splitKeyBetween_52 : decode cX3_splitKeyBetween 52 = .ok (.getfield 9, 3) := by decide +kernel
theorem dX3_splitKeyBetween_55 : decode cX3_splitKeyBetween 55 = .ok (.iload 7, 2) := by decide +kernel
theorem dX3_splitKeyBetween_57 : decode cX3_splitKeyBetween 57 = .ok (.iaload, 1) := by decide +kernel
theorem dX3_splitKeyBetween_58 : decode cX3_splitKeyBetween 58 = .ok (.istore 6, 2) := by decide +kernel
theorem dX3_splitKeyBetween_60 : decode cX3_splitKeyBetween 60 = .ok (.iconst 2, 1) := by decide +kernel
theorem dX3_splitKeyBetween_61 : decode cX3_splitKeyBetween 61 = .ok (.iload 5, 2) := by decide +kernel
theorem dX3_splitKeyBetween_63 : decode cX3_splitKeyBetween 63 = .ok (.imul, 1) := by decide +kernel
theorem dX3_splitKeyBetween_64 : decode cX3_splitKeyBetween 64 = .ok (.iload_n 3, 1) := by decide +kernel
theorem dX3_splitKeyBetween_65 : decode cX3_splitKeyBetween 65 = .ok (.if_icmp .lt 6, 3) := by decide +kernel
theorem dX3_splitKeyBetween_68 : decode cX3_splitKeyBetween 68 = .ok (.iload 6, 2) := by decide +kernel
theorem dX3_splitKeyBetween_70 : decode cX3_splitKeyBetween 70 = .ok (.ireturn, 1) := by decide +kernel
theorem dX3_splitKeyBetween_71 : decode cX3_splitKeyBetween 71 = .ok (.iload 5, 2) := by decide +kernel
theorem dX3_splitKeyBetween_73 : decode cX3_splitKeyBetween 73 = .ok (.aload_n 0, 1) := by decide +kernel
theorem dX3_splitKeyBetween_74 : decode cX3_splitKeyBetween 74 = .ok (.getfield 15, 3) := by decide +kernel
theorem dX3_splitKeyBetween_77 : decode cX3_splitKeyBetween 77 = .ok (.iload 7, 2) := by decide +kernel
theorem dX3_splitKeyBetween_79 : decode cX3_splitKeyBetween 79 = .ok (.iaload, 1) := by decide +kernel
theorem dX3_splitKeyBetween_80 : decode cX3_splitKeyBetween 80 = .ok (.iadd, 1) := by decide +kernel
theorem dX3_splitKeyBetween_81 : decode cX3_splitKeyBetween 81 = .ok (.istore 5, 2) := by decide +kernel
theorem dX3_splitKeyBetween_83 : decode cX3_splitKeyBetween 83 = .ok (.iinc 7 1, 3) := by decide +kernel
theorem dX3_splitKeyBetween_86 : decode cX3_splitKeyBetween 86 = .ok (.goto (-62), 3) := by decide +kernel
theorem dX3_splitKeyBetween_89 : decode cX3_splitKeyBetween 89 = .ok (.iload 6, 2) := by decide +kernel
theorem dX3_splitKeyBetween_91 : decode cX3_splitKeyBetween 91 = .ok (.ireturn, 1) := by decide +kernel
theorem dX3_copyFrom_0 : decode cX3_copyFrom 0 = .ok (.aload_n 0, 1) := by decide +kernel
theorem dX3_copyFrom_1 : decode cX3_copyFrom 1 = .ok (.aload_n 1, 1) := by decide +kernel
theorem dX3_copyFrom_2 : decode cX3_copyFrom 2 = .ok (.getfield 18, 3) := by decide +kernel
theorem dX3_copyFrom_5 : decode cX3_copyFrom 5 = .ok (.putfield 18, 3) := by decide +kernel
theorem dX3_copyFrom_8 : decode cX3_copyFrom 8 = .ok (.aload_n 1, 1) := by decide +kernel
theorem dX3_copyFrom_9 : decode cX3_copyFrom 9 = .ok (.getfield 9, 3) := by decide +kernel
theorem dX3_copyFrom_12 : decode cX3_copyFrom 12 = .ok (.aload_n 0, 1) := by decide +kernel
theorem dX3_copyFrom_13 : decode cX3_copyFrom 13 = .ok (.getfield 9, 3) := by decide +kernel
theorem dX3_copyFrom_16 : decode cX3_copyFrom 16 = .ok (.invokestatic 40, 3) := by decide +kernel
theorem dX3_copyFrom_19 : decode cX3_copyFrom 19 = .ok (.aload_n 1, 1) := by decide +kernel
theorem dX3_copyFrom_20 : decode cX3_copyFrom 20 = .ok (.getfield 15, 3) := by decide +kernel
theorem dX3_copyFrom_23 : decode cX3_copyFrom 23 = .ok (.aload_n 0, 1) := by decide +kernel
theorem dX3_copyFrom_24 : decode cX3_copyFrom 24 = .ok (.getfield 15, 3) := by decide +kernel
theorem dX3_copyFrom_27 : decode cX3_copyFrom 27 = .ok (.invokestatic 40, 3) := by decide +kernel
theorem dX3_copyFrom_30 : decode cX3_copyFrom 30 = .ok (.return_, 1) := by decide +kernel
theorem dX4_init_0 : decode cX4_init 0 = .ok (.aload_n 0, 1) := by decide +kernel
theorem dX4_init_1 : decode cX4_init 1 = .ok (.invokespecial 3, 3) := by decide +kernel
theorem dX4_init_4 : decode cX4_init 4 = .ok (.aload_n 0, 1) := by decide +kernel
theorem dX4_init_5 : decode cX4_init 5 = .ok (.bipush 8, 2) := by decide +kernel
theorem dX4_init_7 : decode cX4_init 7 = .ok (.newarray .int, 2) := by decide +kernel
theorem dX4_init_9 : decode cX4_init 9 = .ok (.putfield 9, 3) := by decide +kernel
theorem dX4_init_12 : decode cX4_init 12 = .ok (.aload_n 0, 1) := by decide +kernel
theorem dX4_init_13 : decode cX4_init 13 = .ok (.bipush 8, 2) := by decide +kernel
theorem dX4_init_15 : decode cX4_init 15 = .ok (.newarray .int, 2) := by decide +kernel
theorem dX4_init_17 : decode cX4_init 17 = .ok (.putfield 15, 3) := by decide +kernel
theorem dX4_init_20 : decode cX4_init 20 = .ok (.return_, 1) := by decide +kernel
theorem dX4_exists_0 : decode cX4_exists 0 = .ok (.iload_n 1, 1) := by decide +kernel
theorem dX4_exists_1 : decode cX4_exists 1 = .ok (.ifCond .lt 15, 3) := by decide +kernel
theorem dX4_exists_4 : decode cX4_exists 4 = .ok (.iload_n 1, 1) := by decide +kernel
theorem dX4_exists_5 : decode cX4_exists 5 = .ok (.aload_n 0, 1) := by decide +kernel
theorem dX4_exists_6 : decode cX4_exists 6 = .ok (.getfield 18, 3) := by decide +kernel
theorem dX4_exists_9 : decode cX4_exists 9 = .ok (.if_icmp .ge 7, 3) := by decide +kernel
theorem dX4_exists_12 : decode cX4_exists 12 = .ok (.iconst 1, 1) := by decide +kernel
theorem dX4_exists_13 : decode cX4_exists 13 = .ok (.goto 4, 3) := by decide +kernel
theorem dX4_exists_16 : decode cX4_exists 16 = .ok (.iconst 0, 1) := by decide +kernel
theorem dX4_exists_17 : decode cX4_exists 17 = .ok (.ireturn, 1) := by decide +kernel
theorem dX4_isUp_0 : decode cX4_isUp 0 = .ok (.aload_n 0, 1) := by decide +kernel
theorem dX4_isUp_1 : decode cX4_isUp 1 = .ok (.getfield 22, 3) := by decide +kernel
theorem dX4_isUp_4 : decode cX4_isUp 4 = .ok (.iload_n 1, 1) := by decide +kernel
theorem dX4_isUp_5 : decode cX4_isUp 5 = .ok (.invokestatic 25, 3) := by decide +kernel
theorem dX4_isUp_8 : decode cX4_isUp 8 = .ok (.iand, 1) := by decide +kernel
theorem dX4_isUp_9 : decode cX4_isUp 9 = .ok (.ifCond .eq 7, 3) := by decide +kernel
theorem dX4_isUp_12 : decode cX4_isUp 12 = .ok (.iconst 1, 1) := by decide +kernel
theorem dX4_isUp_13 : decode cX4_isUp 13 = .ok (.goto 4, 3) := by decide +kernel
theorem dX4_isUp_16 : decode cX4_isUp 16 = .ok (.iconst 0, 1) := by decide +kernel
theorem dX4_isUp_17 : decode cX4_isUp 17 = .ok (.ireturn, 1) := by decide +kernel
theorem dX4_append_0 : decode cX4_append 0 = .ok (.aload_n 0, 1) := by decide +kernel
theorem dX4_append_1 : decode cX4_append 1 = .ok (.getfield 18, 3) := by decide +kernel
theorem dX4_append_4 : decode cX4_append 4 = .ok (.istore_n 3, 1) := by decide +kernel
theorem dX4_append_5 : decode cX4_append 5 = .ok (.iload_n 3, 1) := by decide +kernel
theorem dX4_append_6 : decode cX4_append 6 = .ok (.bipush 8, 2) := by decide +kernel
theorem dX4_append_8 : decode cX4_append 8 = .ok (.if_icmp .lt 5, 3) := by decide +kernel
theorem dX4_append_11 : decode cX4_append 11 = .ok (.iconst (-1), 1) := by decide +kernel
theorem dX4_append_12 : decode cX4_append 12 = .ok (.ireturn, 1) := by decide +kernel
theorem dX4_append_13 : decode cX4_append 13 = .ok (.aload_n 0, 1) := by decide +kernel
theorem dX4_append_14 : decode cX4_append 14 = .ok (.getfield 9, 3) := by decide +kernel
theorem dX4_append_17 : decode cX4_append 17 = .ok (.iload_n 3, 1) := by decide +kernel
theorem dX4_append_18 : decode cX4_append 18 = .ok (.iload_n 1, 1) := by decide +kernel
theorem dX4_append_19 : decode cX4_append 19 = .ok (.iastore, 1) := by decide +kernel
theorem dX4_append_20 : decode cX4_append 20 = .ok (.aload_n 0, 1) := by decide +kernel
theorem dX4_append_21 : decode cX4_append 21 = .ok (.getfield 15, 3) := by decide +kernel
theorem dX4_append_24 : decode cX4_append 24 = .ok (.iload_n 3, 1) := by decide +kernel
theorem dX4_append_25 : decode cX4_append 25 = .ok (.iload_n 2, 1) := by decide +kernel
theorem dX4_append_26 : decode cX4_append 26 = .ok (.iastore, 1) := by decide +kernel
theorem dX4_append_27 : decode cX4_append 27 = .ok (.aload_n 0, 1) := by decide +kernel
theorem dX4_append_28 : decode cX4_append 28 = .ok (.dup, 1) := by decide +kernel
theorem dX4_append_29 : decode cX4_append 29 = .ok (.getfield 22, 3) := by decide +kernel
theorem dX4_append_32 : decode cX4_append 32 = .ok (.iload_n 3, 1) := by decide +kernel
theorem dX4_append_33 : decode cX4_append 33 = .ok (.invokestatic 25, 3) := by decide +kernel
theorem dX4_append_36 : decode cX4_append 36 = .ok (.ior, 1) := by decide +kernel
theorem dX4_append_37 : decode cX4_append 37 = .ok (.putfield 22, 3) := by decide +kernel
theorem dX4_append_40 : decode cX4_append 40 = .ok (.aload_n 0, 1) := by decide +kernel
theorem dX4_append_41 : decode cX4_append 41 = .ok (.dup, 1) := by decide +kernel
theorem dX4_append_42 : decode cX4_append 42 = .ok (.getfield 18, 3) := by decide +kernel
theorem dX4_append_45 : decode cX4_append 45 = .ok (.iconst 1, 1) := by decide +kernel
theorem dX4_append_46 : decode cX4_append 46 = .ok (.iadd, 1) := by decide +kernel
theorem dX4_append_47 : decode cX4_append 47 = .ok (.putfield 18, 3) := by decide +kernel
theorem dX4_append_50 : decode cX4_append 50 = .ok (.iload_n 3, 1) := by decide +kernel
theorem dX4_append_51 : decode cX4_append 51 = .ok (.ireturn, 1) := by decide +kernel
theorem dX4_zonesOf_0 : decode cX4_zonesOf 0 = .ok (.iconst 0, 1) := by decide +kernel
theorem dX4_zonesOf_1 : decode cX4_zonesOf 1 = .ok (.istore_n 2, 1) := by decide +kernel
theorem dX4_zonesOf_2 : decode cX4_zonesOf 2 = .ok (.iconst 0, 1) := by decide +kernel
theorem dX4_zonesOf_3 : decode cX4_zonesOf 3 = .ok (.istore_n 3, 1) := by decide +kernel
theorem dX4_zonesOf_4 : decode cX4_zonesOf 4 = .ok (.iload_n 3, 1) := by decide +kernel
theorem dX4_zonesOf_5 : decode cX4_zonesOf 5 = .ok (.aload_n 0, 1) := by decide +kernel
theorem dX4_zonesOf_6 : decode cX4_zonesOf 6 = .ok (.getfield 18, 3) := by decide +kernel
theorem dX4_zonesOf_9 : decode cX4_zonesOf 9 = .ok (.if_icmp .ge 28, 3) := by decide +kernel
theorem dX4_zonesOf_12 : decode cX4_zonesOf 12 = .ok (.iload_n 1, 1) := by decide +kernel
theorem dX4_zonesOf_13 : decode cX4_zonesOf 13 = .ok (.iload_n 3, 1) := by decide +kernel
theorem dX4_zonesOf_14 : decode cX4_zonesOf 14 = .ok (.ishr, 1) := by decide +kernel
theorem dX4_zonesOf_15 : decode cX4_zonesOf 15 = .ok (.iconst 1, 1) := by decide +kernel
theorem dX4_zonesOf_16 : decode cX4_zonesOf 16 = .ok (.iand, 1) := by decide +kernel
theorem dX4_zonesOf_17 : decode cX4_zonesOf 17 = .ok (.ifCond .eq 14, 3) := by decide +kernel
theorem dX4_zonesOf_20 : decode cX4_zonesOf 20 = .ok (.iload_n 2, 1) := by decide +kernel
theorem dX4_zonesOf_21 : decode cX4_zonesOf 21 = .ok (.iconst 1, 1) := by decide +kernel
theorem dX4_zonesOf_22 : decode cX4_zonesOf 22 = .ok (.aload_n 0, 1) := by decide +kernel
theorem dX4_zonesOf_23 : decode cX4_zonesOf 23 = .ok (.getfield 9, 3) := by decide +kernel
theorem dX4_zonesOf_26 : decode cX4_zonesOf 26 = .ok (.iload_n 3, 1) := by decide +kernel
theorem dX4_zonesOf_27 : decode cX4_zonesOf 27 = .ok (.iaload, 1) := by decide +kernel
theorem dX4_zonesOf_28 : decode cX4_zonesOf 28 = .ok (.ishl, 1) := by decide +kernel
theorem dX4_zonesOf_29 : decode cX4_zonesOf 29 = .ok (.ior, 1) := by decide +kernel
theorem dX4_zonesOf_30 : decode cX4_zonesOf 30 = .ok (.istore_n 2, 1) := by decide +kernel
theorem dX4_zonesOf_31 : decode cX4_zonesOf 31 = .ok (.iinc 3 1, 3) := by decide +kernel
theorem dX4_zonesOf_34 : decode cX4_zonesOf 34 = .ok (.goto (-30), 3) := by decide +kernel
theorem dX4_zonesOf_37 : decode cX4_zonesOf 37 = .ok (.iload_n 2, 1) := by decide +kernel
theorem dX4_zonesOf_38 : decode cX4_zonesOf 38 = .ok (.ireturn, 1) := by decide +kernel
theorem dX4_copyFrom_0 : decode cX4_copyFrom 0 = .ok (.aload_n 0, 1) := by decide +kernel
theorem dX4_copyFrom_1 : decode cX4_copyFrom 1 = .ok (.aload_n 1, 1) := by decide +kernel
theorem dX4_copyFrom_2 : decode cX4_copyFrom 2 = .ok (.getfield 18, 3) := by decide +kernel
theorem dX4_copyFrom_5 : decode cX4_copyFrom 5 = .ok (.putfield 18, 3) := by decide +kernel
theorem dX4_copyFrom_8 : decode cX4_copyFrom 8 = .ok (.aload_n 0, 1) := by decide +kernel
theorem dX4_copyFrom_9 : decode cX4_copyFrom 9 = .ok (.aload_n 1, 1) := by decide +kernel
theorem dX4_copyFrom_10 : decode cX4_copyFrom 10 = .ok (.getfield 22, 3) := by decide +kernel
theorem dX4_copyFrom_13 : decode cX4_copyFrom 13 = .ok (.putfield 22, 3) := by decide +kernel
theorem dX4_copyFrom_16 : decode cX4_copyFrom 16 = .ok (.aload_n 1, 1) := by decide +kernel
theorem dX4_copyFrom_17 : decode cX4_copyFrom 17 = .ok (.getfield 9, 3) := by decide +kernel
theorem dX4_copyFrom_20 : decode cX4_copyFrom 20 = .ok (.aload_n 0, 1) := by decide +kernel
theorem dX4_copyFrom_21 : decode cX4_copyFrom 21 = .ok (.getfield 9, 3) := by decide +kernel
theorem dX4_copyFrom_24 : decode cX4_copyFrom 24 = .ok (.invokestatic 29, 3) := by decide +kernel
theorem dX4_copyFrom_27 : decode cX4_copyFrom 27 = .ok (.aload_n 1, 1) := by decide +kernel
theorem dX4_copyFrom_28 : decode cX4_copyFrom 28 = .ok (.getfield 15, 3) := by decide +kernel
theorem dX4_copyFrom_31 : decode cX4_copyFrom 31 = .ok (.aload_n 0, 1) := by decide +kernel
theorem dX4_copyFrom_32 : decode cX4_copyFrom 32 = .ok (.getfield 15, 3) := by decide +kernel
theorem dX4_copyFrom_35 : decode cX4_copyFrom 35 = .ok (.invokestatic 29, 3) := by decide +kernel
theorem dX4_copyFrom_38 : decode cX4_copyFrom 38 = .ok (.return_, 1) := by decide +kernel
theorem dX5_init_0 : decode cX5_init 0 = .ok (.aload_n 0, 1) := by decide +kernel
theorem dX5_init_1 : decode cX5_init 1 = .ok (.invokespecial 3, 3) := by decide +kernel
theorem dX5_init_4 : decode cX5_init 4 = .ok (.aload_n 0, 1) := by decide +kernel
theorem dX5_init_5 : decode cX5_init 5 = .ok (.bipush 16, 2) := by decide +kernel
theorem dX5_init_7 : decode cX5_init 7 = .ok (.newarray .int, 2) := by decide +kernel
theorem dX5_init_9 : decode cX5_init 9 = .ok (.putfield 9, 3) := by decide +kernel
theorem dX5_init_12 : decode cX5_init 12 = .ok (.aload_n 0, 1) := by decide +kernel
theorem dX5_init_13 : decode cX5_init 13 = .ok (.bipush 16, 2) := by decide +kernel
theorem dX5_init_15 : decode cX5_init 15 = .ok (.newarray .int, 2) := by decide +kernel
theorem dX5_init_17 : decode cX5_init 17 = .ok (.putfield 15, 3) := by decide +kernel
theorem dX5_init_20 : decode cX5_init 20 = .ok (.aload_n 0, 1) := by decide +kernel
theorem dX5_init_21 : decode cX5_init 21 = .ok (.bipush 16, 2) := by decide +kernel
theorem dX5_init_23 : decode cX5_init 23 = .ok (.newarray .int, 2) := by decide +kernel
theorem dX5_init_25 : decode cX5_init 25 = .ok (.putfield 18, 3) := by decide +kernel
theorem dX5_init_28 : decode cX5_init 28 = .ok (.aload_n 0, 1) := by decide +kernel
theorem dX5_init_29 : decode cX5_init 29 = .ok (.bipush 16, 2) := by decide +kernel
theorem dX5_init_31 : decode cX5_init 31 = .ok (.newarray .int, 2) := by decide +kernel
theorem dX5_init_33 : decode cX5_init 33 = .ok (.putfield 21, 3) := by decide +kernel
theorem dX5_init_36 : decode cX5_init 36 = .ok (.aload_n 0, 1) := by decide +kernel
theorem dX5_init_37 : decode cX5_init 37 = .ok (.bipush 16, 2) := by decide +kernel
theorem dX5_init_39 : decode cX5_init 39 = .ok (.newarray .int, 2) := by decide +kernel
theorem dX5_init_41 : decode cX5_init 41 = .ok (.putfield 24, 3) := by decide +kernel
theorem dX5_init_44 : decode cX5_init 44 = .ok (.aload_n 0, 1) := by decide +kernel
theorem dX5_init_45 : decode cX5_init 45 = .ok (.bipush 16, 2) := by decide +kernel
theorem dX5_init_47 : decode cX5_init 47 = .ok (.newarray .int, 2) := by decide +kernel
theorem dX5_init_49 : decode cX5_init 49 = .ok (.putfield 27, 3) := by decide +kernel
theorem dX5_init_52 : decode cX5_init 52 = .ok (.aload_n 0, 1) := by decide +kernel
theorem dX5_init_53 : decode cX5_init 53 = .ok (.iconst 1, 1) := by decide +kernel
theorem dX5_init_54 : decode cX5_init 54 = .ok (.putfield 30, 3) := by decide +kernel
theorem dX5_init_57 : decode cX5_init 57 = .ok (.aload_n 0, 1) := by decide +kernel
theorem dX5_init_58 : decode cX5_init 58 = .ok (.getfield 18, 3) := by decide +kernel
theorem dX5_init_61 : decode cX5_init 61 = .ok (.iconst 0, 1) := by decide +kernel
theorem dX5_init_62 : decode cX5_init 62 = .ok (.iconst (-1), 1) := by decide +kernel
theorem dX5_init_63 : decode cX5_init 63 = .ok (.iastore, 1) := by decide +kernel
theorem dX5_init_64 : decode cX5_init 64 = .ok (.aload_n 0, 1) := by decide +kernel
theorem dX5_init_65 : decode cX5_init 65 = .ok (.getfield 21, 3) := by decide +kernel
theorem dX5_init_68 : decode cX5_init 68 = .ok (.iconst 0, 1) := by decide +kernel
theorem dX5_init_69 : decode cX5_init 69 = .ok (.iconst (-1), 1) := by decide +kernel
theorem dX5_init_70 : decode cX5_init 70 = .ok (.iastore, 1) := by decide +kernel
theorem dX5_init_71 : decode cX5_init 71 = .ok (.aload_n 0, 1) := by decide +kernel
theorem dX5_init_72 : decode cX5_init 72 = .ok (.getfield 27, 3) := by decide +kernel
theorem dX5_init_75 : decode cX5_init 75 = .ok (.iconst 0, 1) := by decide +kernel
theorem dX5_init_76 : decode cX5_init 76 = .ok (.iconst (-1), 1) := by decide +kernel
theorem dX5_init_77 : decode cX5_init 77 = .ok (.iastore, 1) := by decide +kernel
theorem dX5_init_78 : decode cX5_init 78 = .ok (.return_, 1) := by decide +kernel
theorem dX5_exists_0 : decode cX5_exists 0 = .ok (.iload_n 1, 1) := by decide +kernel
theorem dX5_exists_1 : decode cX5_exists 1 = .ok (.ifCond .lt 15, 3) := by decide +kernel
theorem dX5_exists_4 : decode cX5_exists 4 = .ok (.iload_n 1, 1) := by decide +kernel
theorem dX5_exists_5 : decode cX5_exists 5 = .ok (.aload_n 0, 1) := by decide +kernel
theorem dX5_exists_6 : decode cX5_exists 6 = .ok (.getfield 30, 3) := by decide +kernel
theorem dX5_exists_9 : decode cX5_exists 9 = .ok (.if_icmp .ge 7, 3) := by decide +kernel
theorem dX5_exists_12 : decode cX5_exists 12 = .ok (.iconst 1, 1) := by decide +kernel
theorem dX5_exists_13 : decode cX5_exists 13 = .ok (.goto 4, 3) := by decide +kernel
theorem dX5_exists_16 : decode cX5_exists 16 = .ok (.iconst 0, 1) := by decide +kernel
theorem dX5_exists_17 : decode cX5_exists 17 = .ok (.ireturn, 1) := by decide +kernel
theorem dX5_isFull_0 : decode cX5_isFull 0 = .ok (.aload_n 0, 1) := by decide +kernel
theorem dX5_isFull_1 : decode cX5_isFull 1 = .ok (.getfield 30, 3) := by decide +kernel
theorem dX5_isFull_4 : decode cX5_isFull 4 = .ok (.bipush 16, 2) := by decide +kernel
theorem dX5_isFull_6 : decode cX5_isFull 6 = .ok (.if_icmp .lt 7, 3) := by decide +kernel
theorem dX5_isFull_9 : decode cX5_isFull 9 = .ok (.iconst 1, 1) := by decide +kernel
theorem dX5_isFull_10 : decode cX5_isFull 10 = .ok (.goto 4, 3) := by decide +kernel
theorem dX5_isFull_13 : decode cX5_isFull 13 = .ok (.iconst 0, 1) := by decide +kernel
theorem dX5_isFull_14 : decode cX5_isFull 14 = .ok (.ireturn, 1) := by decide +kernel
theorem dX5_holding_0 : decode cX5_holding 0 = .ok (.iconst 0, 1) := by decide +kernel
theorem dX5_holding_1 : decode cX5_holding 1 = .ok (.istore_n 2, 1) := by decide +kernel
theorem dX5_holding_2 : decode cX5_holding 2 = .ok (.iload_n 2, 1) := by decide +kernel
theorem dX5_holding_3 : decode cX5_holding 3 = .ok (.iconst 1, 1) := by decide +kernel
theorem dX5_holding_4 : decode cX5_holding 4 = .ok (.iadd, 1) := by decide +kernel
theorem dX5_holding_5 : decode cX5_holding 5 = .ok (.aload_n 0, 1) := by decide +kernel
theorem dX5_holding_6 : decode cX5_holding 6 = .ok (.getfield 30, 3) := by decide +kernel
theorem dX5_holding_9 : decode cX5_holding 9 = .ok (.if_icmp .ge 21, 3) := by decide +kernel
theorem dX5_holding_12 : decode cX5_holding 12 = .ok (.aload_n 0, 1) := by decide +kernel
theorem dX5_holding_13 : decode cX5_holding 13 = .ok (.getfield 9, 3) := by decide +kernel
theorem dX5_holding_16 : decode cX5_holding 16 = .ok (.iload_n 2, 1) := by decide +kernel
theorem dX5_holding_17 : decode cX5_holding 17 = .ok (.iconst 1, 1) := by decide +kernel
theorem dX5_holding_18 : decode cX5_holding 18 = .ok (.iadd, 1) := by decide +kernel
theorem dX5_holding_19 : decode cX5_holding 19 = .ok (.iaload, 1) := by decide +kernel
theorem dX5_holding_20 : decode cX5_holding 20 = .ok (.iload_n 1, 1) := by decide +kernel
theorem dX5_holding_21 : decode cX5_holding 21 = .ok (.if_icmp .gt 9, 3) := by decide +kernel
theorem dX5_holding_24 : decode cX5_holding 24 = .ok (.iinc 2 1, 3) := by decide +kernel
theorem dX5_holding_27 : decode cX5_holding 27 = .ok (.goto (-25), 3) := by decide +kernel
theorem dX5_holding_30 : decode cX5_holding 30 = .ok (.iload_n 2, 1) := by decide +kernel
theorem dX5_holding_31 : decode cX5_holding 31 = .ok (.ireturn, 1) := by decide +kernel
theorem dX5_endOf_0 : decode cX5_endOf 0 = .ok (.iload_n 1, 1) := by decide +kernel
theorem dX5_endOf_1 : decode cX5_endOf 1 = .ok (.iconst 1, 1) := by decide +kernel
theorem dX5_endOf_2 : decode cX5_endOf 2 = .ok (.iadd, 1) := by decide +kernel
theorem dX5_endOf_3 : decode cX5_endOf 3 = .ok (.aload_n 0, 1) := by decide +kernel
theorem dX5_endOf_4 : decode cX5_endOf 4 = .ok (.getfield 30, 3) := by decide +kernel
theorem dX5_endOf_7 : decode cX5_endOf 7 = .ok (.if_icmp .ge 14, 3) := by decide +kernel
theorem dX5_endOf_10 : decode cX5_endOf 10 = .ok (.aload_n 0, 1) := by decide +kernel
theorem dX5_endOf_11 : decode cX5_endOf 11 = .ok (.getfield 9, 3) := by decide +kernel
theorem dX5_endOf_14 : decode cX5_endOf 14 = .ok (.iload_n 1, 1) := by decide +kernel
theorem dX5_endOf_15 : decode cX5_endOf 15 = .ok (.iconst 1, 1) := by decide +kernel
theorem dX5_endOf_16 : decode cX5_endOf 16 = .ok (.iadd, 1) := by decide +kernel
theorem dX5_endOf_17 : decode cX5_endOf 17 = .ok (.iaload, 1) := by decide +kernel
theorem dX5_endOf_18 : decode cX5_endOf 18 = .ok (.goto 6, 3) := by decide +kernel
theorem dX5_endOf_21 : decode cX5_endOf 21 = .ok (.sipush 10000, 3) := by decide +kernel
theorem dX5_endOf_24 : decode cX5_endOf 24 = .ok (.ireturn, 1) := by decide +kernel
theorem dX5_hasLearner_0 : decode cX5_hasLearner 0 = .ok (.aload_n 0, 1) := by decide +kernel
theorem dX5_hasLearner_1 : decode cX5_hasLearner 1 = .ok (.getfield 21, 3) := by decide +kernel
theorem dX5_hasLearner_4 : decode cX5_hasLearner 4 = .ok (.iload_n 1, 1) := by decide +kernel
theorem dX5_hasLearner_5 : decode cX5_hasLearner 5 = .ok (.iaload, 1) := by decide +kernel
theorem dX5_hasLearner_6 : decode cX5_hasLearner 6 = .ok (.iconst (-1), 1) := by decide +kernel
theorem dX5_hasLearner_7 : decode cX5_hasLearner 7 = .ok (.if_icmp .eq 7, 3) := by decide +kernel
theorem dX5_hasLearner_10 : decode cX5_hasLearner 10 = .ok (.iconst 1, 1) := by decide +kernel
theorem dX5_hasLearner_11 : decode cX5_hasLearner 11 = .ok (.goto 4, 3) := by decide +kernel
theorem dX5_hasLearner_14 : decode cX5_hasLearner 14 = .ok (.iconst 0, 1) := by decide +kernel
theorem dX5_hasLearner_15 : decode cX5_hasLearner 15 = .ok (.ireturn, 1) := by decide +kernel
theorem dX5_anyLearner_0 : decode cX5_anyLearner 0 = .ok (.iconst 0, 1) := by decide +kernel
theorem dX5_anyLearner_1 : decode cX5_anyLearner 1 = .ok (.istore_n 1, 1) := by decide +kernel
theorem dX5_anyLearner_2 : decode cX5_anyLearner 2 = .ok (.iload_n 1, 1) := by decide +kernel
theorem dX5_anyLearner_3 : decode cX5_anyLearner 3 = .ok (.aload_n 0, 1) := by decide +kernel
theorem dX5_anyLearner_4 : decode cX5_anyLearner 4 = .ok (.getfield 30, 3) := by decide +kernel
theorem dX5_anyLearner_7 : decode cX5_anyLearner 7 = .ok (.if_icmp .ge 19, 3) := by decide +kernel
theorem dX5_anyLearner_10 : decode cX5_anyLearner 10 = .ok (.aload_n 0, 1) := by decide +kernel
theorem dX5_anyLearner_11 : decode cX5_anyLearner 11 = .ok (.iload_n 1, 1) := by decide +kernel
theorem dX5_anyLearner_12 : decode cX5_anyLearner 12 = .ok (.invokevirtual 34, 3) := by decide +kernel
theorem dX5_anyLearner_15 : decode cX5_anyLearner 15 = .ok (.ifCond .eq 5, 3) := by decide +kernel
theorem dX5_anyLearner_18 : decode cX5_anyLearner 18 = .ok (.iconst 1, 1) := by decide +kernel
theorem dX5_anyLearner_19 : decode cX5_anyLearner 19 = .ok (.ireturn, 1) := by decide +kernel
theorem dX5_anyLearner_20 : decode cX5_anyLearner 20 = .ok (.iinc 1 1, 3) := by decide +kernel
theorem dX5_anyLearner_23 : decode cX5_anyLearner 23 = .ok (.goto (-21), 3) := by decide +kernel
theorem dX5_anyLearner_26 : decode cX5_anyLearner 26 = .ok (.iconst 0, 1) := by decide +kernel
theorem dX5_anyLearner_27 : decode cX5_anyLearner 27 = .ok (.ireturn, 1) := by decide +kernel
theorem dX5_learnerCode_0 : decode cX5_learnerCode 0 = .ok (.aload_n 0, 1) := by decide +kernel
theorem dX5_learnerCode_1 : decode cX5_learnerCode 1 = .ok (.iload_n 1, 1) := by decide +kernel
theorem dX5_learnerCode_2 : decode cX5_learnerCode 2 = .ok (.invokevirtual 34, 3) := by decide +kernel
theorem dX5_learnerCode_5 : decode cX5_learnerCode 5 = .ok (.ifCond .eq 22, 3) := by decide +kernel
theorem dX5_learnerCode_8 : decode cX5_learnerCode 8 = .ok (.bipush 100, 2) := by decide +kernel
theorem dX5_learnerCode_10 : decode cX5_learnerCode 10 = .ok (.aload_n 0, 1) := by decide +kernel
theorem dX5_learnerCode_11 : decode cX5_learnerCode 11 = .ok (.getfield 24, 3) := by decide +kernel
theorem dX5_learnerCode_14 : decode cX5_learnerCode 14 = .ok (.iload_n 1, 1) := by decide +kernel
theorem dX5_learnerCode_15 : decode cX5_learnerCode 15 = .ok (.iaload, 1) := by decide +kernel
theorem dX5_learnerCode_16 : decode cX5_learnerCode 16 = .ok (.imul, 1) := by decide +kernel
theorem dX5_learnerCode_17 : decode cX5_learnerCode 17 = .ok (.aload_n 0, 1) := by decide +kernel
theorem dX5_learnerCode_18 : decode cX5_learnerCode 18 = .ok (.getfield 21, 3) := by decide +kernel
theorem dX5_learnerCode_21 : decode cX5_learnerCode 21 = .ok (.iload_n 1, 1) := by decide +kernel
theorem dX5_learnerCode_22 : decode cX5_learnerCode 22 = .ok (.iaload, 1) := by decide +kernel
theorem dX5_learnerCode_23 : decode cX5_learnerCode 23 = .ok (.iadd, 1) := by decide +kernel
theorem dX5_learnerCode_24 : decode cX5_learnerCode 24 = .ok (.goto 4, 3) := by decide +kernel
theorem dX5_learnerCode_27 : decode cX5_learnerCode 27 = .ok (.iconst (-1), 1) := by decide +kernel
theorem dX5_learnerCode_28 : decode cX5_learnerCode 28 = .ok (.ireturn, 1) := by decide +kernel
theorem dX5_setLearner_0 : decode cX5_setLearner 0 = .ok (.aload_n 0, 1) := by decide +kernel
theorem dX5_setLearner_1 : decode cX5_setLearner 1 = .ok (.getfield 21, 3) := by decide +kernel
theorem dX5_setLearner_4 : decode cX5_setLearner 4 = .ok (.iload_n 1, 1) := by decide +kernel
theorem dX5_setLearner_5 : decode cX5_setLearner 5 = .ok (.iload_n 2, 1) := by decide +kernel
theorem dX5_setLearner_6 : decode cX5_setLearner 6 = .ok (.iastore, 1) := by decide +kernel
theorem dX5_setLearner_7 : decode cX5_setLearner 7 = .ok (.aload_n 0, 1) := by decide +kernel
theorem dX5_setLearner_8 : decode cX5_setLearner 8 = .ok (.getfield 24, 3) := by decide +kernel
theorem dX5_setLearner_11 : decode cX5_setLearner 11 = .ok (.iload_n 1, 1) := by decide +kernel
theorem dX5_setLearner_12 : decode cX5_setLearner 12 = .ok (.iload_n 3, 1) := by decide +kernel
theorem dX5_setLearner_13 : decode cX5_setLearner 13 = .ok (.iastore, 1) := by decide +kernel
theorem dX5_setLearner_14 : decode cX5_setLearner 14 = .ok (.aload_n 0, 1) := by decide +kernel
theorem dX5_setLearner_15 : decode cX5_setLearner 15 = .ok (.getfield 27, 3) := by decide +kernel
theorem dX5_setLearner_18 : decode cX5_setLearner 18 = .ok (.iload_n 1, 1) := by decide +kernel
theorem dX5_setLearner_19 : decode cX5_setLearner 19 = .ok (.iload 4, 2) := by decide +kernel
theorem dX5_setLearner_21 : decode cX5_setLearner 21 = .ok (.iastore, 1) := by decide +kernel
theorem dX5_setLearner_22 : decode cX5_setLearner 22 = .ok (.return_, 1) := by decide +kernel
theorem dX5_clearLearner_0 : decode cX5_clearLearner 0 = .ok (.aload_n 0, 1) := by decide +kernel
theorem dX5_clearLearner_1 : decode cX5_clearLearner 1 = .ok (.iload_n 1, 1) := by decide +kernel
theorem dX5_clearLearner_2 : decode cX5_clearLearner 2 = .ok (.iconst (-1), 1) := by decide +kernel
theorem dX5_clearLearner_3 : decode cX5_clearLearner 3 = .ok (.iconst 0, 1) := by decide +kernel
theorem dX5_clearLearner_4 : decode cX5_clearLearner 4 = .ok (.iconst (-1), 1) := by decide +kernel
theorem dX5_clearLearner_5 : decode cX5_clearLearner 5 = .ok (.invokevirtual 38, 3) := by decide +kernel
theorem dX5_clearLearner_8 : decode cX5_clearLearner 8 = .ok (.return_, 1) := by decide +kernel
theorem dX5_replicasOn_0 : decode cX5_replicasOn 0 = .ok (.iload_n 1, 1) := by decide +kernel
theorem dX5_replicasOn_1 : decode cX5_replicasOn 1 = .ok (.invokestatic 42, 3) := by decide +kernel
theorem dX5_replicasOn_4 : decode cX5_replicasOn 4 = .ok (.istore_n 2, 1) := by decide +kernel
theorem dX5_replicasOn_5 : decode cX5_replicasOn 5 = .ok (.iconst 0, 1) := by decide +kernel
theorem dX5_replicasOn_6 : decode cX5_replicasOn 6 = .ok (.istore_n 3, 1) := by decide +kernel
theorem dX5_replicasOn_7 : decode cX5_replicasOn 7 = .ok (.iconst 0, 1) := by decide +kernel
theorem dX5_replicasOn_8 : decode cX5_replicasOn 8 = .ok (.istore 4, 2) := by decide +kernel
theorem dX5_replicasOn_10 : decode cX5_replicasOn 10 = .ok (.iload 4, 2) := by decide +kernel
theorem dX5_replicasOn_12 : decode cX5_replicasOn 12 = .ok (.aload_n 0, 1) := by decide +kernel
theorem dX5_replicasOn_13 : decode cX5_replicasOn 13 = .ok (.getfield 30, 3) := by decide +kernel
theorem dX5_replicasOn_16 : decode cX5_replicasOn 16 = .ok (.if_icmp .ge 35, 3) := by decide +kernel
theorem dX5_replicasOn_19 : decode cX5_replicasOn 19 = .ok (.aload_n 0, 1) := by decide +kernel
theorem dX5_replicasOn_20 : decode cX5_replicasOn 20 = .ok (.getfield 15, 3) := by decide +kernel
theorem dX5_replicasOn_23 : decode cX5_replicasOn 23 = .ok (.iload 4, 2) := by decide +kernel
theorem dX5_replicasOn_25 : decode cX5_replicasOn 25 = .ok (.iaload, 1) := by decide +kernel
theorem dX5_replicasOn_26 : decode cX5_replicasOn 26 = .ok (.iload_n 2, 1) := by decide +kernel
theorem dX5_replicasOn_27 : decode cX5_replicasOn 27 = .ok (.iand, 1) := by decide +kernel
theorem dX5_replicasOn_28 : decode cX5_replicasOn 28 = .ok (.ifCond .ne 14, 3) := by decide +kernel
theorem dX5_replicasOn_31 : decode cX5_replicasOn 31 = .ok (.aload_n 0, 1) := by decide +kernel
theorem dX5_replicasOn_32 : decode cX5_replicasOn 32 = .ok (.getfield 21, 3) := by decide +kernel
theorem dX5_replicasOn_35 : decode cX5_replicasOn 35 = .ok (.iload 4, 2) := by decide +kernel
theorem dX5_replicasOn_37 : decode cX5_replicasOn 37 = .ok (.iaload, 1) := by decide +kernel
theorem dX5_replicasOn_38 : decode cX5_replicasOn 38 = .ok (.iload_n 1, 1) := by decide +kernel
theorem dX5_replicasOn_39 : decode cX5_replicasOn 39 = .ok (.if_icmp .ne 6, 3) := by decide +kernel
theorem dX5_replicasOn_42 : decode cX5_replicasOn 42 = .ok (.iinc 3 1, 3) := by decide +kernel
theorem dX5_replicasOn_45 : decode cX5_replicasOn 45 = .ok (.iinc 4 1, 3) := by decide +kernel
theorem dX5_replicasOn_48 : decode cX5_replicasOn 48 = .ok (.goto (-38), 3) := by decide +kernel
theorem dX5_replicasOn_51 : decode cX5_replicasOn 51 = .ok (.iload_n 3, 1) := by decide +kernel
theorem dX5_replicasOn_52 : decode cX5_replicasOn 52 = .ok (.ireturn, 1) := by decide +kernel
theorem dX5_ledBy_0 : decode cX5_ledBy 0 = .ok (.iconst 0, 1) := by decide +kernel
theorem dX5_ledBy_1 : decode cX5_ledBy 1 = .ok (.istore_n 2, 1) := by decide +kernel
theorem dX5_ledBy_2 : decode cX5_ledBy 2 = .ok (.iconst 0, 1) := by decide +kernel
theorem dX5_ledBy_3 : decode cX5_ledBy 3 = .ok (.istore_n 3, 1) := by decide +kernel
theorem dX5_ledBy_4 : decode cX5_ledBy 4 = .ok (.iload_n 3, 1) := by decide +kernel
theorem dX5_ledBy_5 : decode cX5_ledBy 5 = .ok (.aload_n 0, 1) := by decide +kernel
theorem dX5_ledBy_6 : decode cX5_ledBy 6 = .ok (.getfield 30, 3) := by decide +kernel
theorem dX5_ledBy_9 : decode cX5_ledBy 9 = .ok (.if_icmp .ge 22, 3) := by decide +kernel
theorem dX5_ledBy_12 : decode cX5_ledBy 12 = .ok (.aload_n 0, 1) := by decide +kernel
theorem dX5_ledBy_13 : decode cX5_ledBy 13 = .ok (.getfield 18, 3) := by decide +kernel
theorem dX5_ledBy_16 : decode cX5_ledBy 16 = .ok (.iload_n 3, 1) := by decide +kernel
theorem dX5_ledBy_17 : decode cX5_ledBy 17 = .ok (.iaload, 1) := by decide +kernel
theorem dX5_ledBy_18 : decode cX5_ledBy 18 = .ok (.iload_n 1, 1) := by decide +kernel
theorem dX5_ledBy_19 : decode cX5_ledBy 19 = .ok (.if_icmp .ne 6, 3) := by decide +kernel
theorem dX5_ledBy_22 : decode cX5_ledBy 22 = .ok (.iinc 2 1, 3) := by decide +kernel
theorem dX5_ledBy_25 : decode cX5_ledBy 25 = .ok (.iinc 3 1, 3) := by decide +kernel
theorem dX5_ledBy_28 : decode cX5_ledBy 28 = .ok (.goto (-24), 3) := by decide +kernel
theorem dX5_ledBy_31 : decode cX5_ledBy 31 = .ok (.iload_n 2, 1) := by decide +kernel
theorem dX5_ledBy_32 : decode cX5_ledBy 32 = .ok (.ireturn, 1) := by decide +kernel
theorem dX5_divide_0 : decode cX5_divide 0 = .ok (.aload_n 0, 1) := by decide +kernel
theorem dX5_divide_1 : decode cX5_divide 1 = .ok (.invokevirtual 46, 3) := by decide +kernel
theorem dX5_divide_4 : decode cX5_divide 4 = .ok (.ifCond .eq 4, 3) := by decide +kernel
theorem dX5_divide_7 : decode cX5_divide 7 = .ok (.return_, 1) := by decide +kernel
theorem dX5_divide_8 : decode cX5_divide 8 = .ok (.aload_n 0, 1) := by decide +kernel
theorem dX5_divide_9 : decode cX5_divide 9 = .ok (.getfield 30, 3) := by decide +kernel
theorem dX5_divide_12 : decode cX5_divide 12 = .ok (.istore_n 3, 1) := by decide +kernel
theorem dX5_divide_13 : decode cX5_divide 13 = .ok (.iload_n 3, 1) := by decide +kernel
theorem dX5_divide_14 : decode cX5_divide 14 = .ok (.iload_n 1, 1) := by decide +kernel
theorem dX5_divide_15 : decode cX5_divide 15 = .ok (.iconst 1, 1) := by decide +kernel
theorem dX5_divide_16 : decode cX5_divide 16 = .ok (.iadd, 1) := by decide +kernel
theorem dX5_divide_17 : decode cX5_divide 17 = .ok (.if_icmp .le 17, 3) := by decide +kernel
theorem dX5_divide_20 : decode cX5_divide 20 = .ok (.aload_n 0, 1) := by decide +kernel
theorem dX5_divide_21 : decode cX5_divide 21 = .ok (.iload_n 3, 1) := by decide +kernel
theorem dX5_divide_22 : decode cX5_divide 22 = .ok (.iconst 1, 1) := by decide +kernel
theorem dX5_divide_23 : decode cX5_divide 23 = .ok (.isub, 1) := by decide +kernel
theorem dX5_divide_24 : decode cX5_divide 24 = .ok (.iload_n 3, 1) := by decide +kernel
theorem dX5_divide_25 : decode cX5_divide 25 = .ok (.invokevirtual 50, 3) := by decide +kernel
theorem dX5_divide_28 : decode cX5_divide 28 = .ok (.iinc 3 (-1), 3) := by decide +kernel
theorem dX5_divide_31 : decode cX5_divide 31 = .ok (.goto (-18), 3) := by decide +kernel
theorem dX5_divide_34 : decode cX5_divide 34 = .ok (.aload_n 0, 1) := by decide +kernel
theorem dX5_divide_35 : decode cX5_divide 35 = .ok (.iload_n 1, 1) := by decide +kernel
theorem dX5_divide_36 : decode cX5_divide 36 = .ok (.iload_n 1, 1) := by decide +kernel
theorem dX5_divide_37 : decode cX5_divide 37 = .ok (.iconst 1, 1) := by decide +kernel
theorem dX5_divide_38 : decode cX5_divide 38 = .ok (.iadd, 1) := by decide +kernel
theorem dX5_divide_39 : decode cX5_divide 39 = .ok (.invokevirtual 50, 3) := by decide +kernel
theorem dX5_divide_42 : decode cX5_divide 42 = .ok (.aload_n 0, 1) := by decide +kernel
theorem dX5_divide_43 : decode cX5_divide 43 = .ok (.getfield 9, 3) := by decide +kernel
theorem dX5_divide_46 : decode cX5_divide 46 = .ok (.iload_n 1, 1) := by decide +kernel
theorem dX5_divide_47 : decode cX5_divide 47 = .ok (.iconst 1, 1) := by decide +kernel
theorem dX5_divide_48 : decode cX5_divide 48 = .ok (.iadd, 1) := by decide +kernel
theorem dX5_divide_49 : decode cX5_divide 49 = .ok (.iload_n 2, 1) := by decide +kernel
theorem dX5_divide_50 : decode cX5_divide 50 = .ok (.iastore, 1) := by decide +kernel
theorem dX5_divide_51 : decode cX5_divide 51 = .ok (.aload_n 0, 1) := by decide +kernel
theorem dX5_divide_52 : decode cX5_divide 52 = .ok (.dup, 1) := by decide +kernel
theorem dX5_divide_53 : decode cX5_divide 53 = .ok (.getfield 30, 3) := by decide +kernel
theorem dX5_divide_56 : decode cX5_divide 56 = .ok (.iconst 1, 1) := by decide +kernel
theorem dX5_divide_57 : decode cX5_divide 57 = .ok (.iadd, 1) := by decide +kernel
theorem dX5_divide_58 : decode cX5_divide 58 = .ok (.putfield 30, 3) := by decide +kernel
theorem dX5_divide_61 : decode cX5_divide 61 = .ok (.return_, 1) := by decide +kernel
theorem dX5_absorbNext_0 : decode cX5_absorbNext 0 = .ok (.iload_n 1, 1) := by decide +kernel
theorem dX5_absorbNext_1 : decode cX5_absorbNext 1 = .ok (.iconst 1, 1) := by decide +kernel
theorem dX5_absorbNext_2 : decode cX5_absorbNext 2 = .ok (.iadd, 1) := by decide +kernel
theorem dX5_absorbNext_3 : decode cX5_absorbNext 3 = .ok (.istore_n 2, 1) := by decide +kernel
theorem dX5_absorbNext_4 : decode cX5_absorbNext 4 = .ok (.iload_n 2, 1) := by decide +kernel
theorem dX5_absorbNext_5 : decode cX5_absorbNext 5 = .ok (.iconst 1, 1) := by decide +kernel
theorem dX5_absorbNext_6 : decode cX5_absorbNext 6 = .ok (.iadd, 1) := by decide +kernel
theorem dX5_absorbNext_7 : decode cX5_absorbNext 7 = .ok (.aload_n 0, 1) := by decide +kernel
theorem dX5_absorbNext_8 : decode cX5_absorbNext 8 = .ok (.getfield 30, 3) := by decide +kernel
theorem dX5_absorbNext_11 : decode cX5_absorbNext 11 = .ok (.if_icmp .ge 17, 3) := by decide +kernel
theorem dX5_absorbNext_14 : decode cX5_absorbNext 14 = .ok (.aload_n 0, 1) := by decide +kernel
theorem dX5_absorbNext_15 : decode cX5_absorbNext 15 = .ok (.iload_n 2, 1) := by decide +kernel
theorem dX5_absorbNext_16 : decode cX5_absorbNext 16 = .ok (.iconst 1, 1) := by decide +kernel
theorem dX5_absorbNext_17 : decode cX5_absorbNext 17 = .ok (.iadd, 1) := by decide +kernel
theorem dX5_absorbNext_18 : decode cX5_absorbNext 18 = .ok (.iload_n 2, 1) := by decide +kernel
theorem dX5_absorbNext_19 : decode cX5_absorbNext 19 = .ok (.invokevirtual 50, 3) := by decide +kernel
theorem dX5_absorbNext_22 : decode cX5_absorbNext 22 = .ok (.iinc 2 1, 3) := by decide +kernel
theorem dX5_absorbNext_25 : decode cX5_absorbNext 25 = .ok (.goto (-21), 3) := by decide +kernel
theorem dX5_absorbNext_28 : decode cX5_absorbNext 28 = .ok (.aload_n 0, 1) := by decide +kernel
theorem dX5_absorbNext_29 : decode cX5_absorbNext 29 = .ok (.dup, 1) := by decide +kernel
theorem dX5_absorbNext_30 : decode cX5_absorbNext 30 = .ok (.getfield 30, 3) := by decide +kernel
theorem dX5_absorbNext_33 : decode cX5_absorbNext 33 = .ok (.iconst 1, 1) := by decide +kernel
theorem dX5_absorbNext_34 : decode cX5_absorbNext 34 = .ok (.isub, 1) := by decide +kernel
theorem dX5_absorbNext_35 : decode cX5_absorbNext 35 = .ok (.putfield 30, 3) := by decide +kernel
theorem dX5_absorbNext_38 : decode cX5_absorbNext 38 = .ok (.return_, 1) := by decide +kernel
theorem dX5_copyWithin_0 : decode cX5_copyWithin 0 = .ok (.aload_n 0, 1) := by decide +kernel
theorem dX5_copyWithin_1 : decode cX5_copyWithin 1 = .ok (.getfield 9, 3) := by decide +kernel
theorem dX5_copyWithin_4 : decode cX5_copyWithin 4 = .ok (.iload_n 2, 1) := by decide +kernel
theorem dX5_copyWithin_5 : decode cX5_copyWithin 5 = .ok (.aload_n 0, 1) := by decide +kernel
theorem dX5_copyWithin_6 : decode cX5_copyWithin 6 = .ok (.getfield 9, 3) := by decide +kernel
theorem dX5_copyWithin_9 : decode cX5_copyWithin 9 = .ok (.iload_n 1, 1) := by decide +kernel
theorem dX5_copyWithin_10 : decode cX5_copyWithin 10 = .ok (.iaload, 1) := by decide +kernel
theorem dX5_copyWithin_11 : decode cX5_copyWithin 11 = .ok (.iastore, 1) := by decide +kernel
theorem dX5_copyWithin_12 : decode cX5_copyWithin 12 = .ok (.aload_n 0, 1) := by decide +kernel
theorem dX5_copyWithin_13 : decode cX5_copyWithin 13 = .ok (.getfield 15, 3) := by decide +kernel
theorem dX5_copyWithin_16 : decode cX5_copyWithin 16 = .ok (.iload_n 2, 1) := by decide +kernel
theorem dX5_copyWithin_17 : decode cX5_copyWithin 17 = .ok (.aload_n 0, 1) := by decide +kernel
theorem dX5_copyWithin_18 : decode cX5_copyWithin 18 = .ok (.getfield 15, 3) := by decide +kernel
theorem dX5_copyWithin_21 : decode cX5_copyWithin 21 = .ok (.iload_n 1, 1) := by decide +kernel
theorem dX5_copyWithin_22 : decode cX5_copyWithin 22 = .ok (.iaload, 1) := by decide +kernel
theorem dX5_copyWithin_23 : decode cX5_copyWithin 23 = .ok (.iastore, 1) := by decide +kernel
theorem dX5_copyWithin_24 : decode cX5_copyWithin 24 = .ok (.aload_n 0, 1) := by decide +kernel
theorem dX5_copyWithin_25 : decode cX5_copyWithin 25 = .ok (.getfield 18, 3) := by decide +kernel
theorem dX5_copyWithin_28 : decode cX5_copyWithin 28 = .ok (.iload_n 2, 1) := by decide +kernel
theorem dX5_copyWithin_29 : decode cX5_copyWithin 29 = .ok (.aload_n 0, 1) := by decide +kernel
theorem dX5_copyWithin_30 : decode cX5_copyWithin 30 = .ok (.getfield 18, 3) := by decide +kernel
theorem dX5_copyWithin_33 : decode cX5_copyWithin 33 = .ok (.iload_n 1, 1) := by decide +kernel
theorem dX5_copyWithin_34 : decode cX5_copyWithin 34 = .ok (.iaload, 1) := by decide +kernel
theorem dX5_copyWithin_35 : decode cX5_copyWithin 35 = .ok (.iastore, 1) := by decide +kernel
theorem dX5_copyWithin_36 : decode cX5_copyWithin 36 = .ok (.aload_n 0, 1) := by decide +kernel
theorem dX5_copyWithin_37 : decode cX5_copyWithin 37 = .ok (.getfield 21, 3) := by decide +kernel
theorem dX5_copyWithin_40 : decode cX5_copyWithin 40 = .ok (.iload_n 2, 1) := by decide +kernel
theorem dX5_copyWithin_41 : decode cX5_copyWithin 41 = .ok (.aload_n 0, 1) := by decide +kernel
theorem dX5_copyWithin_42 : decode cX5_copyWithin 42 = .ok (.getfield 21, 3) := by decide +kernel
theorem dX5_copyWithin_45 : decode cX5_copyWithin 45 = .ok (.iload_n 1, 1) := by decide +kernel
theorem dX5_copyWithin_46 : decode cX5_copyWithin 46 = .ok (.iaload, 1) := by decide +kernel
theorem dX5_copyWithin_47 : decode cX5_copyWithin 47 = .ok (.iastore, 1) := by decide +kernel
theorem dX5_copyWithin_48 : decode cX5_copyWithin 48 = .ok (.aload_n 0, 1) := by decide +kernel
theorem dX5_copyWithin_49 : decode cX5_copyWithin 49 = .ok (.getfield 24, 3) := by decide +kernel
theorem dX5_copyWithin_52 : decode cX5_copyWithin 52 = .ok (.iload_n 2, 1) := by decide +kernel
theorem dX5_copyWithin_53 : decode cX5_copyWithin 53 = .ok (.aload_n 0, 1) := by decide +kernel
theorem dX5_copyWithin_54 : decode cX5_copyWithin 54 = .ok (.getfield 24, 3) := by decide +kernel
theorem dX5_copyWithin_57 : decode cX5_copyWithin 57 = .ok (.iload_n 1, 1) := by decide +kernel
theorem dX5_copyWithin_58 : decode cX5_copyWithin 58 = .ok (.iaload, 1) := by decide +kernel
theorem dX5_copyWithin_59 : decode cX5_copyWithin 59 = .ok (.iastore, 1) := by decide +kernel
theorem dX5_copyWithin_60 : decode cX5_copyWithin 60 = .ok (.aload_n 0, 1) := by decide +kernel
theorem dX5_copyWithin_61 : decode cX5_copyWithin 61 = .ok (.getfield 27, 3) := by decide +kernel
theorem dX5_copyWithin_64 : decode cX5_copyWithin 64 = .ok (.iload_n 2, 1) := by decide +kernel
theorem dX5_copyWithin_65 : decode cX5_copyWithin 65 = .ok (.aload_n 0, 1) := by decide +kernel
theorem dX5_copyWithin_66 : decode cX5_copyWithin 66 = .ok (.getfield 27, 3) := by decide +kernel
theorem dX5_copyWithin_69 : decode cX5_copyWithin 69 = .ok (.iload_n 1, 1) := by decide +kernel
theorem dX5_copyWithin_70 : decode cX5_copyWithin 70 = .ok (.iaload, 1) := by decide +kernel
theorem dX5_copyWithin_71 : decode cX5_copyWithin 71 = .ok (.iastore, 1) := by decide +kernel
theorem dX5_copyWithin_72 : decode cX5_copyWithin 72 = .ok (.return_, 1) := by decide +kernel
theorem dX5_copyFrom_0 : decode cX5_copyFrom 0 = .ok (.aload_n 0, 1) := by decide +kernel
theorem dX5_copyFrom_1 : decode cX5_copyFrom 1 = .ok (.aload_n 1, 1) := by decide +kernel
theorem dX5_copyFrom_2 : decode cX5_copyFrom 2 = .ok (.getfield 30, 3) := by decide +kernel
theorem dX5_copyFrom_5 : decode cX5_copyFrom 5 = .ok (.putfield 30, 3) := by decide +kernel
theorem dX5_copyFrom_8 : decode cX5_copyFrom 8 = .ok (.aload_n 1, 1) := by decide +kernel
theorem dX5_copyFrom_9 : decode cX5_copyFrom 9 = .ok (.getfield 9, 3) := by decide +kernel
theorem dX5_copyFrom_12 : decode cX5_copyFrom 12 = .ok (.aload_n 0, 1) := by decide +kernel
theorem dX5_copyFrom_13 : decode cX5_copyFrom 13 = .ok (.getfield 9, 3) := by decide +kernel
theorem dX5_copyFrom_16 : decode cX5_copyFrom 16 = .ok (.invokestatic 54, 3) := by decide +kernel
theorem dX5_copyFrom_19 : decode cX5_copyFrom 19 = .ok (.aload_n 1, 1) := by decide +kernel
theorem dX5_copyFrom_20 : decode cX5_copyFrom 20 = .ok (.getfield 15, 3) := by decide +kernel
theorem dX5_copyFrom_23 : decode cX5_copyFrom 23 = .ok (.aload_n 0, 1) := by decide +kernel
theorem dX5_copyFrom_24 : decode cX5_copyFrom 24 = .ok (.getfield 15, 3) := by decide +kernel
theorem dX5_copyFrom_27 : decode cX5_copyFrom 27 = .ok (.invokestatic 54, 3) := by decide +kernel
theorem dX5_copyFrom_30 : decode cX5_copyFrom 30 = .ok (.aload_n 1, 1) := by decide +kernel
theorem dX5_copyFrom_31 : decode cX5_copyFrom 31 = .ok (.getfield 18, 3) := by decide +kernel
theorem dX5_copyFrom_34 : decode cX5_copyFrom 34 = .ok (.aload_n 0, 1) := by decide +kernel
theorem dX5_copyFrom_35 : decode cX5_copyFrom 35 = .ok (.getfield 18, 3) := by decide +kernel
theorem dX5_copyFrom_38 : decode cX5_copyFrom 38 = .ok (.invokestatic 54, 3) := by decide +kernel
theorem dX5_copyFrom_41 : decode cX5_copyFrom 41 = .ok (.aload_n 1, 1) := by decide +kernel
theorem dX5_copyFrom_42 : decode cX5_copyFrom 42 = .ok (.getfield 21, 3) := by decide +kernel
theorem dX5_copyFrom_45 : decode cX5_copyFrom 45 = .ok (.aload_n 0, 1) := by decide +kernel
theorem dX5_copyFrom_46 : decode cX5_copyFrom 46 = .ok (.getfield 21, 3) := by decide +kernel
theorem dX5_copyFrom_49 : decode cX5_copyFrom 49 = .ok (.invokestatic 54, 3) := by decide +kernel
theorem dX5_copyFrom_52 : decode cX5_copyFrom 52 = .ok (.aload_n 1, 1) := by decide +kernel
theorem dX5_copyFrom_53 : decode cX5_copyFrom 53 = .ok (.getfield 24, 3) := by decide +kernel
theorem dX5_copyFrom_56 : decode cX5_copyFrom 56 = .ok (.aload_n 0, 1) := by decide +kernel
theorem dX5_copyFrom_57 : decode cX5_copyFrom 57 = .ok (.getfield 24, 3) := by decide +kernel
theorem dX5_copyFrom_60 : decode cX5_copyFrom 60 = .ok (.invokestatic 54, 3) := by decide +kernel
theorem dX5_copyFrom_63 : decode cX5_copyFrom 63 = .ok (.aload_n 1, 1) := by decide +kernel
theorem dX5_copyFrom_64 : decode cX5_copyFrom 64 = .ok (.getfield 27, 3) := by decide +kernel
theorem dX5_copyFrom_67 : decode cX5_copyFrom 67 = .ok (.aload_n 0, 1) := by decide +kernel
theorem dX5_copyFrom_68 : decode cX5_copyFrom 68 = .ok (.getfield 27, 3) := by decide +kernel
theorem dX5_copyFrom_71 : decode cX5_copyFrom 71 = .ok (.invokestatic 54, 3) := by decide +kernel
theorem dX5_copyFrom_74 : decode cX5_copyFrom 74 = .ok (.return_, 1) := by decide +kernel
theorem dX6_init_0 : decode cX6_init 0 = .ok (.aload_n 0, 1) := by decide +kernel
theorem dX6_init_1 : decode cX6_init 1 = .ok (.invokespecial 3, 3) := by decide +kernel
theorem dX6_init_4 : decode cX6_init 4 = .ok (.aload_n 0, 1) := by decide +kernel
theorem dX6_init_5 : decode cX6_init 5 = .ok (.bipush 32, 2) := by decide +kernel
theorem dX6_init_7 : decode cX6_init 7 = .ok (.newarray .int, 2) := by decide +kernel
theorem dX6_init_9 : decode cX6_init 9 = .ok (.putfield 9, 3) := by decide +kernel
theorem dX6_init_12 : decode cX6_init 12 = .ok (.return_, 1) := by decide +kernel
theorem dX6_append_0 : decode cX6_append 0 = .ok (.aload_n 0, 1) := by decide +kernel
theorem dX6_append_1 : decode cX6_append 1 = .ok (.getfield 15, 3) := by decide +kernel
theorem dX6_append_4 : decode cX6_append 4 = .ok (.bipush 32, 2) := by decide +kernel
theorem dX6_append_6 : decode cX6_append 6 = .ok (.if_icmp .lt 24, 3) := by decide +kernel
theorem dX6_append_9 : decode cX6_append 9 = .ok (.aload_n 0, 1) := by decide +kernel
theorem dX6_append_10 : decode cX6_append 10 = .ok (.getfield 9, 3) := by decide +kernel
theorem dX6_append_13 : decode cX6_append 13 = .ok (.iconst 1, 1) := by decide +kernel
theorem dX6_append_14 : decode cX6_append 14 = .ok (.aload_n 0, 1) := by decide +kernel
theorem dX6_append_15 : decode cX6_append 15 = .ok (.getfield 9, 3) := by decide +kernel
theorem dX6_append_18 : decode cX6_append 18 = .ok (.iconst 0, 1) := by decide +kernel
theorem dX6_append_19 : decode cX6_append 19 = .ok (.bipush 31, 2) := by decide +kernel
theorem dX6_append_21 : decode cX6_append 21 = .ok (.invokestatic 19, 3) := by decide +kernel
theorem dX6_append_24 : decode cX6_append 24 = .ok (.aload_n 0, 1) := by decide +kernel
theorem dX6_append_25 : decode cX6_append 25 = .ok (.bipush 31, 2) := by decide +kernel
theorem dX6_append_27 : decode cX6_append 27 = .ok (.putfield 15, 3) := by decide +kernel
theorem dX6_append_30 : decode cX6_append 30 = .ok (.aload_n 0, 1) := by decide +kernel
theorem dX6_append_31 : decode cX6_append 31 = .ok (.getfield 9, 3) := by decide +kernel
theorem dX6_append_34 : decode cX6_append 34 = .ok (.aload_n 0, 1) := by decide +kernel
theorem dX6_append_35 : decode cX6_append 35 = .ok (.getfield 15, 3) := by decide +kernel
theorem dX6_append_38 : decode cX6_append 38 = .ok (.iload_n 1, 1) := by decide +kernel
theorem dX6_append_39 : decode cX6_append 39 = .ok (.iastore, 1) := by decide +kernel
theorem dX6_append_40 : decode cX6_append 40 = .ok (.aload_n 0, 1) := by decide +kernel
theorem dX6_append_41 : decode cX6_append 41 = .ok (.dup, 1) := by decide +kernel
theorem dX6_append_42 : decode cX6_append 42 = .ok (.getfield 15, 3) := by decide +kernel
theorem dX6_append_45 : decode cX6_append 45 = .ok (.iconst 1, 1) := by decide +kernel
theorem dX6_append_46 : decode cX6_append 46 = .ok (.iadd, 1) := by decide +kernel
theorem dX6_append_47 : decode cX6_append 47 = .ok (.putfield 15, 3) := by decide +kernel
theorem dX6_append_50 : decode cX6_append 50 = .ok (.return_, 1) := by decide +kernel
theorem dX6_countBetween_0 : decode cX6_countBetween 0 = .ok (.iconst 0, 1) := by decide +kernel
theorem dX6_countBetween_1 : decode cX6_countBetween 1 = .ok (.istore_n 3, 1) := by decide +kernel
theorem dX6_countBetween_2 : decode cX6_countBetween 2 = .ok (.iconst 0, 1) := by decide +kernel
theorem dX6_countBetween_3 : decode cX6_countBetween 3 = .ok (.istore 4, 2) := by decide +kernel
theorem dX6_countBetween_5 : decode cX6_countBetween 5 = .ok (.iload 4, 2) := by decide +kernel
theorem dX6_countBetween_7 : decode cX6_countBetween 7 = .ok (.aload_n 0, 1) := by decide +kernel
theorem dX6_countBetween_8 : decode cX6_countBetween 8 = .ok (.getfield 15, 3) := by decide +kernel
theorem dX6_countBetween_11 : decode cX6_countBetween 11 = .ok (.if_icmp .ge 34, 3) := by decide +kernel
theorem dX6_countBetween_14 : decode cX6_countBetween 14 = .ok (.aload_n 0, 1) := by decide +kernel
theorem dX6_countBetween_15 : decode cX6_countBetween 15 = .ok (.getfield 9, 3) := by decide +kernel
theorem dX6_countBetween_18 : decode cX6_countBetween 18 = .ok (.iload 4, 2) := by decide +kernel
theorem dX6_countBetween_20 : decode cX6_countBetween 20 = .ok (.iaload, 1) := by decide +kernel
theorem dX6_countBetween_21 : decode cX6_countBetween 21 = .ok (.iload_n 1, 1) := by decide +kernel
theorem dX6_countBetween_22 : decode cX6_countBetween 22 = .ok (.if_icmp .lt 17, 3) := by decide +kernel
theorem dX6_countBetween_25 : decode cX6_countBetween 25 = .ok (.aload_n 0, 1) := by decide +kernel
theorem dX6_countBetween_26 : decode cX6_countBetween 26 = .ok (.getfield 9, 3) := by decide +kernel
theorem dX6_countBetween_29 : decode cX6_countBetween 29 = .ok (.iload 4, 2) := by decide +kernel
theorem dX6_countBetween_31 : decode cX6_countBetween 31 = .ok (.iaload, 1) := by decide +kernel
theorem dX6_countBetween_32 : decode cX6_countBetween 32 = .ok (.iload_n 2, 1) := by decide +kernel
theorem dX6_countBetween_33 : decode cX6_countBetween 33 = .ok (.if_icmp .ge 6, 3) := by decide +kernel
theorem dX6_countBetween_36 : decode cX6_countBetween 36 = .ok (.iinc 3 1, 3) := by decide +kernel
theorem dX6_countBetween_39 : decode cX6_countBetween 39 = .ok (.iinc 4 1, 3) := by decide +kernel
theorem dX6_countBetween_42 : decode cX6_countBetween 42 = .ok (.goto (-37), 3) := by decide +kernel
theorem dX6_countBetween_45 : decode cX6_countBetween 45 = .ok (.iload_n 3, 1) := by decide +kernel
theorem dX6_countBetween_46 : decode cX6_countBetween 46 = .ok (.ireturn, 1) := by decide +kernel
theorem dX6_leastBetween_0 : decode cX6_leastBetween 0 = .ok (.iload_n 2, 1) := by decide +kernel
theorem dX6_leastBetween_1 : decode cX6_leastBetween 1 = .ok (.istore_n 3, 1) := by decide +kernel
theorem dX6_leastBetween_2 : decode cX6_leastBetween 2 = .ok (.iconst 0, 1) := by decide +kernel
theorem dX6_leastBetween_3 : decode cX6_leastBetween 3 = .ok (.istore 4, 2) := by decide +kernel
theorem dX6_leastBetween_5 : decode cX6_leastBetween 5 = .ok (.iload 4, 2) := by decide +kernel
theorem dX6_leastBetween_7 : decode cX6_leastBetween 7 = .ok (.aload_n 0, 1) := by decide +kernel
theorem dX6_leastBetween_8 : decode cX6_leastBetween 8 = .ok (.getfield 15, 3) := by decide +kernel
theorem dX6_leastBetween_11 : decode cX6_leastBetween 11 = .ok (.if_icmp .ge 39, 3) := by decide +kernel
theorem dX6_leastBetween_14 : decode cX6_leastBetween 14 = .ok (.aload_n 0, 1) := by decide +kernel
theorem dX6_leastBetween_15 : decode cX6_leastBetween 15 = .ok (.getfield 9, 3) := by decide +kernel
theorem dX6_leastBetween_18 : decode cX6_leastBetween 18 = .ok (.iload 4, 2) := by decide +kernel
theorem dX6_leastBetween_20 : decode cX6_leastBetween 20 = .ok (.iaload, 1) := by decide +kernel
theorem dX6_leastBetween_21 : decode cX6_leastBetween 21 = .ok (.iload_n 1, 1) := by decide +kernel
theorem dX6_leastBetween_22 : decode cX6_leastBetween 22 = .ok (.if_icmp .lt 22, 3) := by decide +kernel
theorem dX6_leastBetween_25 : decode cX6_leastBetween 25 = .ok (.aload_n 0, 1) := by decide +kernel
theorem dX6_leastBetween_26 : decode cX6_leastBetween 26 = .ok (.getfield 9, 3) := by decide +kernel
theorem dX6_leastBetween_29 : decode cX6_leastBetween 29 = .ok (.iload 4, 2) := by decide +kernel
theorem dX6_leastBetween_31 : decode cX6_leastBetween 31 = .ok (.iaload, 1) := by decide +kernel
theorem dX6_leastBetween_32 : decode cX6_leastBetween 32 = .ok (.iload_n 3, 1) := by decide +kernel
theorem dX6_leastBetween_33 : decode cX6_leastBetween 33 = .ok (.if_icmp .ge 11, 3) := by decide +kernel
theorem dX6_leastBetween_36 : decode cX6_leastBetween 36 = .ok (.aload_n 0, 1) := by decide +kernel
theorem dX6_leastBetween_37 : decode cX6_leastBetween 37 = .ok (.getfield 9, 3) := by decide +kernel
theorem dX6_leastBetween_40 : decode cX6_leastBetween 40 = .ok (.iload 4, 2) := by decide +kernel
theorem dX6_leastBetween_42 : decode cX6_leastBetween 42 = .ok (.iaload, 1) := by decide +kernel
theorem dX6_leastBetween_43 : decode cX6_leastBetween 43 = .ok (.istore_n 3, 1) := by decide +kernel
theorem dX6_leastBetween_44 : decode cX6_leastBetween 44 = .ok (.iinc 4 1, 3) := by decide +kernel
theorem dX6_leastBetween_47 : decode cX6_leastBetween 47 = .ok (.goto (-42), 3) := by decide +kernel
theorem dX6_leastBetween_50 : decode cX6_leastBetween 50 = .ok (.iload_n 3, 1) := by decide +kernel
theorem dX6_leastBetween_51 : decode cX6_leastBetween 51 = .ok (.ireturn, 1) := by decide +kernel
theorem dX6_splitKeyBetween_0 : decode cX6_splitKeyBetween 0 = .ok (.aload_n 0, 1) := by decide +kernel
theorem dX6_splitKeyBetween_1 : decode cX6_splitKeyBetween 1 = .ok (.iload_n 1, 1) := by decide +kernel
theorem dX6_splitKeyBetween_2 : decode cX6_splitKeyBetween 2 = .ok (.iload_n 2, 1) := by decide +kernel
theorem dX6_splitKeyBetween_3 : decode cX6_splitKeyBetween 3 = .ok (.invokevirtual 25, 3) := by decide +kernel
theorem dX6_splitKeyBetween_6 : decode cX6_splitKeyBetween 6 = .ok (.istore_n 3, 1) := by decide +kernel
theorem dX6_splitKeyBetween_7 : decode cX6_splitKeyBetween 7 = .ok (.iconst (-1), 1) := by decide +kernel
theorem dX6_splitKeyBetween_8 : decode cX6_splitKeyBetween 8 = .ok (.istore 4, 2) := by decide +kernel
theorem dX6_splitKeyBetween_10 : decode cX6_splitKeyBetween 10 = .ok (.aload_n 0, 1) := by decide +kernel
theorem dX6_splitKeyBetween_11 : decode cX6_splitKeyBetween 11 = .ok (.aload_n 0, 1) := by decide +kernel
theorem dX6_splitKeyBetween_12 : decode cX6_splitKeyBetween 12 = .ok (.iload_n 1, 1) := by decide +kernel
theorem dX6_splitKeyBetween_13 : decode cX6_splitKeyBetween 13 = .ok (.iload_n 2, 1) := by decide +kernel
theorem dX6_splitKeyBetween_14 : decode cX6_splitKeyBetween 14 = .ok (.invokevirtual 29, 3) := by decide +kernel
theorem dX6_splitKeyBetween_17 : decode cX6_splitKeyBetween 17 = .ok (.iconst 1, 1) := by decide +kernel
theorem dX6_splitKeyBetween_18 : decode cX6_splitKeyBetween 18 = .ok (.iadd, 1) := by decide +kernel
theorem dX6_splitKeyBetween_19 : decode cX6_splitKeyBetween 19 = .ok (.iload_n 2, 1) := by decide +kernel
theorem dX6_splitKeyBetween_20 : decode cX6_splitKeyBetween 20 = .ok (.invokevirtual 29, 3) := by decide +kernel
theorem dX6_splitKeyBetween_23 : decode cX6_splitKeyBetween 23 = .ok (.istore 5, 2) := by decide +kernel
theorem dX6_splitKeyBetween_25 : decode cX6_splitKeyBetween 25 = .ok (.iconst 0, 1) := by decide +kernel
theorem dX6_splitKeyBetween_26 : decode cX6_splitKeyBetween 26 = .ok (.istore 6, 2) := by decide +kernel
theorem dX6_splitKeyBetween_28 : decode cX6_splitKeyBetween 28 = .ok (.iload 6, 2) := by decide +kernel
theorem dX6_splitKeyBetween_30 : decode cX6_splitKeyBetween 30 = .ok (.bipush 32, 2) := by decide +kernel
theorem dX6_splitKeyBetween_32 : decode cX6_splitKeyBetween 32 = .ok (.if_icmp .ge 46, 3) := by decide +kernel
theorem dX6_splitKeyBetween_35 : decode cX6_splitKeyBetween 35 = .ok (.iload 5, 2) := by decide +kernel
theorem dX6_splitKeyBetween_37 : decode cX6_splitKeyBetween 37 = .ok (.iload_n 2, 1) := by decide +kernel
theorem dX6_splitKeyBetween_38 : decode cX6_splitKeyBetween 38 = .ok (.if_icmp .ge 40, 3) := by decide +kernel
theorem dX6_splitKeyBetween_41 : decode cX6_splitKeyBetween 41 = .ok (.iload 5, 2) := by decide +kernel
theorem dX6_splitKeyBetween_43 : decode cX6_splitKeyBetween 43 = .ok (.istore 4, 2) := by decide +kernel
theorem dX6_splitKeyBetween_45 : decode cX6_splitKeyBetween 45 = .ok (.iconst 2, 1) := by decide +kernel
theorem dX6_splitKeyBetween_46 : decode cX6_splitKeyBetween 46 = .ok (.aload_n 0, 1) := by decide +kernel
theorem dX6_splitKeyBetween_47 : decode cX6_splitKeyBetween 47 = .ok (.iload_n 1, 1) := by decide +kernel
theorem dX6_splitKeyBetween_48 : decode cX6_splitKeyBetween 48 = .ok (.iload 5, 2) := by decide +kernel
theorem dX6_splitKeyBetween_50 : decode cX6_splitKeyBetween 50 = .ok (.invokevirtual 25, 3) := by decide +kernel
theorem dX6_splitKeyBetween_53 : decode cX6_splitKeyBetween 53 = .ok (.imul, 1) := by decide +kernel
theorem dX6_splitKeyBetween_54 : decode cX6_splitKeyBetween 54 = .ok (.iload_n 3, 1) := by decide +kernel
theorem dX6_splitKeyBetween_55 : decode cX6_splitKeyBetween 55 = .ok (.if_icmp .lt 6, 3) := by decide +kernel
theorem dX6_splitKeyBetween_58 : decode cX6_splitKeyBetween 58 = .ok (.iload 4, 2) := by decide +kernel
theorem dX6_splitKeyBetween_60 : decode cX6_splitKeyBetween 60 = .ok (.ireturn, 1) := by decide +kernel
theorem dX6_splitKeyBetween_61 : decode cX6_splitKeyBetween 61 = .ok (.aload_n 0, 1) := by decide +kernel
theorem dX6_splitKeyBetween_62 : decode cX6_splitKeyBetween 62 = .ok (.iload 5, 2) := by decide +kernel
theorem dX6_splitKeyBetween_64 : decode cX6_splitKeyBetween 64 = .ok (.iconst 1, 1) := by decide +kernel
theorem dX6_splitKeyBetween_65 : decode cX6_splitKeyBetween 65 = .ok (.iadd, 1) := by decide +kernel
theorem dX6_splitKeyBetween_66 : decode cX6_splitKeyBetween 66 = .ok (.iload_n 2, 1) := by decide +kernel
theorem dX6_splitKeyBetween_67 : decode cX6_splitKeyBetween 67 = .ok (.invokevirtual 29, 3) := by decide +kernel
theorem dX6_splitKeyBetween_70 : decode cX6_splitKeyBetween 70 = .ok (.istore 5, 2) := by decide +kernel
theorem dX6_splitKeyBetween_72 : decode cX6_splitKeyBetween 72 = .ok (.iinc 6 1, 3) := by decide +kernel
theorem dX6_splitKeyBetween_75 : decode cX6_splitKeyBetween 75 = .ok (.goto (-47), 3) := by decide +kernel
theorem dX6_splitKeyBetween_78 : decode cX6_splitKeyBetween 78 = .ok (.iload 4, 2) := by decide +kernel
theorem dX6_splitKeyBetween_80 : decode cX6_splitKeyBetween 80 = .ok (.ireturn, 1) := by decide +kernel
theorem dX6_copyFrom_0 : decode cX6_copyFrom 0 = .ok (.aload_n 0, 1) := by decide +kernel
theorem dX6_copyFrom_1 : decode cX6_copyFrom 1 = .ok (.aload_n 1, 1) := by decide +kernel
theorem dX6_copyFrom_2 : decode cX6_copyFrom 2 = .ok (.getfield 15, 3) := by decide +kernel
theorem dX6_copyFrom_5 : decode cX6_copyFrom 5 = .ok (.putfield 15, 3) := by decide +kernel
theorem dX6_copyFrom_8 : decode cX6_copyFrom 8 = .ok (.aload_n 1, 1) := by decide +kernel
theorem dX6_copyFrom_9 : decode cX6_copyFrom 9 = .ok (.getfield 9, 3) := by decide +kernel
theorem dX6_copyFrom_12 : decode cX6_copyFrom 12 = .ok (.aload_n 0, 1) := by decide +kernel
theorem dX6_copyFrom_13 : decode cX6_copyFrom 13 = .ok (.getfield 9, 3) := by decide +kernel
theorem dX6_copyFrom_16 : decode cX6_copyFrom 16 = .ok (.invokestatic 32, 3) := by decide +kernel
theorem dX6_copyFrom_19 : decode cX6_copyFrom 19 = .ok (.return_, 1) := by decide +kernel
theorem dX7_init_0 : decode cX7_init 0 = .ok (.aload_n 0, 1) := by decide +kernel
theorem dX7_init_1 : decode cX7_init 1 = .ok (.invokespecial 1, 3) := by decide +kernel
theorem dX7_init_4 : decode cX7_init 4 = .ok (.aload_n 0, 1) := by decide +kernel
theorem dX7_init_5 : decode cX7_init 5 = .ok (.iconst 3, 1) := by decide +kernel
theorem dX7_init_6 : decode cX7_init 6 = .ok (.putfield 7, 3) := by decide +kernel
theorem dX7_init_9 : decode cX7_init 9 = .ok (.aload_n 0, 1) := by decide +kernel
theorem dX7_init_10 : decode cX7_init 10 = .ok (.bipush 20, 2) := by decide +kernel
theorem dX7_init_12 : decode cX7_init 12 = .ok (.putfield 13, 3) := by decide +kernel
theorem dX7_init_15 : decode cX7_init 15 = .ok (.aload_n 0, 1) := by decide +kernel
theorem dX7_init_16 : decode cX7_init 16 = .ok (.bipush 100, 2) := by decide +kernel
theorem dX7_init_18 : decode cX7_init 18 = .ok (.putfield 16, 3) := by decide +kernel
theorem dX7_init_21 : decode cX7_init 21 = .ok (.aload_n 0, 1) := by decide +kernel
theorem dX7_init_22 : decode cX7_init 22 = .ok (.iconst 2, 1) := by decide +kernel
theorem dX7_init_23 : decode cX7_init 23 = .ok (.putfield 19, 3) := by decide +kernel
theorem dX7_init_26 : decode cX7_init 26 = .ok (.aload_n 0, 1) := by decide +kernel
theorem dX7_init_27 : decode cX7_init 27 = .ok (.bipush 16, 2) := by decide +kernel
theorem dX7_init_29 : decode cX7_init 29 = .ok (.putfield 22, 3) := by decide +kernel
theorem dX7_init_32 : decode cX7_init 32 = .ok (.aload_n 0, 1) := by decide +kernel
theorem dX7_init_33 : decode cX7_init 33 = .ok (.bipush 10, 2) := by decide +kernel
theorem dX7_init_35 : decode cX7_init 35 = .ok (.putfield 25, 3) := by decide +kernel
theorem dX7_init_38 : decode cX7_init 38 = .ok (.return_, 1) := by decide +kernel
theorem dX7_learnerTicks_0 : decode cX7_learnerTicks 0 = .ok (.aload_n 0, 1) := by decide +kernel
theorem dX7_learnerTicks_1 : decode cX7_learnerTicks 1 = .ok (.getfield 25, 3) := by decide +kernel
theorem dX7_learnerTicks_4 : decode cX7_learnerTicks 4 = .ok (.iconst 1, 1) := by decide +kernel
theorem dX7_learnerTicks_5 : decode cX7_learnerTicks 5 = .ok (.if_icmp .ge 7, 3) := by decide +kernel
theorem dX7_learnerTicks_8 : decode cX7_learnerTicks 8 = .ok (.iconst 1, 1) := by decide +kernel
theorem dX7_learnerTicks_9 : decode cX7_learnerTicks 9 = .ok (.goto 11, 3) := by decide +kernel
theorem dX7_learnerTicks_12 : decode cX7_learnerTicks 12 = .ok (.iconst 1, 1) := by decide +kernel
theorem dX7_learnerTicks_13 : decode cX7_learnerTicks 13 = .ok (.iload_n 1, 1) := by decide +kernel
theorem dX7_learnerTicks_14 : decode cX7_learnerTicks 14 = .ok (.aload_n 0, 1) := by decide +kernel
theorem dX7_learnerTicks_15 : decode cX7_learnerTicks 15 = .ok (.getfield 25, 3) := by decide +kernel
theorem dX7_learnerTicks_18 : decode cX7_learnerTicks 18 = .ok (.idiv, 1) := by decide +kernel
theorem dX7_learnerTicks_19 : decode cX7_learnerTicks 19 = .ok (.iadd, 1) := by decide +kernel
theorem dX7_learnerTicks_20 : decode cX7_learnerTicks 20 = .ok (.ireturn, 1) := by decide +kernel
theorem dX7_copyFrom_0 : decode cX7_copyFrom 0 = .ok (.aload_n 0, 1) := by decide +kernel
theorem dX7_copyFrom_1 : decode cX7_copyFrom 1 = .ok (.aload_n 1, 1) := by decide +kernel
theorem dX7_copyFrom_2 : decode cX7_copyFrom 2 = .ok (.getfield 7, 3) := by decide +kernel
theorem dX7_copyFrom_5 : decode cX7_copyFrom 5 = .ok (.putfield 7, 3) := by decide +kernel
theorem dX7_copyFrom_8 : decode cX7_copyFrom 8 = .ok (.aload_n 0, 1) := by decide +kernel
theorem dX7_copyFrom_9 : decode cX7_copyFrom 9 = .ok (.aload_n 1, 1) := by decide +kernel
theorem dX7_copyFrom_10 : decode cX7_copyFrom 10 = .ok (.getfield 13, 3) := by decide +kernel
theorem dX7_copyFrom_13 : decode cX7_copyFrom 13 = .ok (.putfield 13, 3) := by decide +kernel
theorem dX7_copyFrom_16 : decode cX7_copyFrom 16 = .ok (.aload_n 0, 1) := by decide +kernel
theorem dX7_copyFrom_17 : decode cX7_copyFrom 17 = .ok (.aload_n 1, 1) := by decide +kernel
theorem dX7_copyFrom_18 : decode cX7_copyFrom 18 = .ok (.getfield 16, 3) := by decide +kernel
theorem dX7_copyFrom_21 : decode cX7_copyFrom 21 = .ok (.putfield 16, 3) := by decide +kernel
theorem dX7_copyFrom_24 : decode cX7_copyFrom 24 = .ok (.aload_n 0, 1) := by decide +kernel
theorem dX7_copyFrom_25 : decode cX7_copyFrom 25 = .ok (.aload_n 1, 1) := by decide +kernel
theorem dX7_copyFrom_26 : decode cX7_copyFrom 26 = .ok (.getfield 19, 3) := by decide +kernel
theorem dX7_copyFrom_29 : decode cX7_copyFrom 29 = .ok (.putfield 19, 3) := by decide +kernel
theorem dX7_copyFrom_32 : decode cX7_copyFrom 32 = .ok (.aload_n 0, 1) := by decide +kernel
theorem dX7_copyFrom_33 : decode cX7_copyFrom 33 = .ok (.aload_n 1, 1) := by decide +kernel
theorem dX7_copyFrom_34 : decode cX7_copyFrom 34 = .ok (.getfield 22, 3) := by decide +kernel
theorem dX7_copyFrom_37 : decode cX7_copyFrom 37 = .ok (.putfield 22, 3) := by decide +kernel
theorem dX7_copyFrom_40 : decode cX7_copyFrom 40 = .ok (.aload_n 0, 1) := by decide +kernel
theorem dX7_copyFrom_41 : decode cX7_copyFrom 41 = .ok (.aload_n 1, 1) := by decide +kernel
theorem dX7_copyFrom_42 : decode cX7_copyFrom 42 = .ok (.getfield 25, 3) := by decide +kernel
theorem dX7_copyFrom_45 : decode cX7_copyFrom 45 = .ok (.putfield 25, 3) := by decide +kernel
theorem dX7_copyFrom_48 : decode cX7_copyFrom 48 = .ok (.return_, 1) := by decide +kernel
theorem dX8_init_0 : decode cX8_init 0 = .ok (.aload_n 0, 1) := by decide +kernel
theorem dX8_init_1 : decode cX8_init 1 = .ok (.invokespecial 3, 3) := by decide +kernel
theorem dX8_init_4 : decode cX8_init 4 = .ok (.aload_n 0, 1) := by decide +kernel
theorem dX8_init_5 : decode cX8_init 5 = .ok (.new 9, 3) := by decide +kernel
theorem dX8_init_8 : decode cX8_init 8 = .ok (.dup, 1) := by decide +kernel
theorem dX8_init_9 : decode cX8_init 9 = .ok (.invokespecial 11, 3) := by decide +kernel
theorem dX8_init_12 : decode cX8_init 12 = .ok (.putfield 12, 3) := by decide +kernel
theorem dX8_init_15 : decode cX8_init 15 = .ok (.aload_n 0, 1) := by decide +kernel
theorem dX8_init_16 : decode cX8_init 16 = .ok (.aload_n 0, 1) := by decide +kernel
theorem dX8_init_17 : decode cX8_init 17 = .ok (.getfield 12, 3) := by decide +kernel
theorem dX8_init_20 : decode cX8_init 20 = .ok (.getfield 16, 3) := by decide +kernel
theorem dX8_init_23 : decode cX8_init 23 = .ok (.putfield 20, 3) := by decide +kernel
theorem dX8_init_26 : decode cX8_init 26 = .ok (.aload_n 0, 1) := by decide +kernel
theorem dX8_init_27 : decode cX8_init 27 = .ok (.new 21, 3) := by decide +kernel
theorem dX8_init_30 : decode cX8_init 30 = .ok (.dup, 1) := by decide +kernel
theorem dX8_init_31 : decode cX8_init 31 = .ok (.invokespecial 23, 3) := by decide +kernel
theorem dX8_init_34 : decode cX8_init 34 = .ok (.putfield 24, 3) := by decide +kernel
theorem dX8_init_37 : decode cX8_init 37 = .ok (.return_, 1) := by decide +kernel
theorem dX8_addNode_0 : decode cX8_addNode 0 = .ok (.iload_n 1, 1) := by decide +kernel
theorem dX8_addNode_1 : decode cX8_addNode 1 = .ok (.iconst 0, 1) := by decide +kernel
theorem dX8_addNode_2 : decode cX8_addNode 2 = .ok (.iconst 3, 1) := by decide +kernel
theorem dX8_addNode_3 : decode cX8_addNode 3 = .ok (.invokestatic 28, 3) := by decide +kernel
theorem dX8_addNode_6 : decode cX8_addNode 6 = .ok (.ifCond .eq 13, 3) := by decide +kernel
theorem dX8_addNode_9 : decode cX8_addNode 9 = .ok (.iload_n 2, 1) := by decide +kernel
theorem dX8_addNode_10 : decode cX8_addNode 10 = .ok (.iconst 1, 1) := by decide +kernel
theorem dX8_addNode_11 : decode cX8_addNode 11 = .ok (.bipush 16, 2) := by decide +kernel
theorem dX8_addNode_13 : decode cX8_addNode 13 = .ok (.invokestatic 28, 3) := by decide +kernel
theorem dX8_addNode_16 : decode cX8_addNode 16 = .ok (.ifCond .ne 10, 3) := by decide +kernel
theorem dX8_addNode_19 : decode cX8_addNode 19 = .ok (.aload_n 0, 1) := by decide +kernel
theorem dX8_addNode_20 : decode cX8_addNode 20 = .ok (.bipush (-2), 2) := by decide +kernel
theorem dX8_addNode_22 : decode cX8_addNode 22 = .ok (.invokevirtual 32, 3) := by decide +kernel
theorem dX8_addNode_25 : decode cX8_addNode 25 = .ok (.ireturn, 1) := by decide +kernel
theorem dX8_addNode_26 : decode cX8_addNode 26 = .ok (.aload_n 0, 1) := by decide +kernel
theorem dX8_addNode_27 : decode cX8_addNode 27 = .ok (.getfield 20, 3) := by decide +kernel
theorem dX8_addNode_30 : decode cX8_addNode 30 = .ok (.getfield 36, 3) := by decide +kernel
theorem dX8_addNode_33 : decode cX8_addNode 33 = .ok (.getfield 42, 3) := by decide +kernel
theorem dX8_addNode_36 : decode cX8_addNode 36 = .ok (.bipush 8, 2) := by decide +kernel
theorem dX8_addNode_38 : decode cX8_addNode 38 = .ok (.if_icmp .lt 10, 3) := by decide +kernel
theorem dX8_addNode_41 : decode cX8_addNode 41 = .ok (.aload_n 0, 1) := by decide +kernel
theorem dX8_addNode_42 : decode cX8_addNode 42 = .ok (.bipush (-4), 2) := by decide +kernel
theorem dX8_addNode_44 : decode cX8_addNode 44 = .ok (.invokevirtual 32, 3) := by decide +kernel
theorem dX8_addNode_47 : decode cX8_addNode 47 = .ok (.ireturn, 1) := by decide +kernel
theorem dX8_addNode_48 : decode cX8_addNode 48 = .ok (.aload_n 0, 1) := by decide +kernel
theorem dX8_addNode_49 : decode cX8_addNode 49 = .ok (.getfield 24, 3) := by decide +kernel
theorem dX8_addNode_52 : decode cX8_addNode 52 = .ok (.aload_n 0, 1) := by decide +kernel
theorem dX8_addNode_53 : decode cX8_addNode 53 = .ok (.getfield 20, 3) := by decide +kernel
theorem dX8_addNode_56 : decode cX8_addNode 56 = .ok (.invokevirtual 48, 3) := by decide +kernel
theorem dX8_addNode_59 : decode cX8_addNode 59 = .ok (.aload_n 0, 1) := by decide +kernel
theorem dX8_addNode_60 : decode cX8_addNode 60 = .ok (.getfield 20, 3) := by decide +kernel
theorem dX8_addNode_63 : decode cX8_addNode 63 = .ok (.getfield 36, 3) := by decide +kernel
theorem dX8_addNode_66 : decode cX8_addNode 66 = .ok (.iload_n 1, 1) := by decide +kernel
theorem dX8_addNode_67 : decode cX8_addNode 67 = .ok (.iload_n 2, 1) := by decide +kernel
theorem dX8_addNode_68 : decode cX8_addNode 68 = .ok (.invokevirtual 52, 3) := by decide +kernel
theorem dX8_addNode_71 : decode cX8_addNode 71 = .ok (.ireturn, 1) := by decide +kernel
theorem dX8_setNode_0 : decode cX8_setNode 0 = .ok (.aload_n 0, 1) := by decide +kernel
theorem dX8_setNode_1 : decode cX8_setNode 1 = .ok (.getfield 20, 3) := by decide +kernel
theorem dX8_setNode_4 : decode cX8_setNode 4 = .ok (.getfield 36, 3) := by decide +kernel
theorem dX8_setNode_7 : decode cX8_setNode 7 = .ok (.iload_n 1, 1) := by decide +kernel
theorem dX8_setNode_8 : decode cX8_setNode 8 = .ok (.invokevirtual 56, 3) := by decide +kernel
theorem dX8_setNode_11 : decode cX8_setNode 11 = .ok (.ifCond .eq 12, 3) := by decide +kernel
theorem dX8_setNode_14 : decode cX8_setNode 14 = .ok (.iload_n 2, 1) := by decide +kernel
theorem dX8_setNode_15 : decode cX8_setNode 15 = .ok (.iconst 0, 1) := by decide +kernel
theorem dX8_setNode_16 : decode cX8_setNode 16 = .ok (.iconst 1, 1) := by decide +kernel
theorem dX8_setNode_17 : decode cX8_setNode 17 = .ok (.invokestatic 28, 3) := by decide +kernel
theorem dX8_setNode_20 : decode cX8_setNode 20 = .ok (.ifCond .ne 10, 3) := by decide +kernel
theorem dX8_setNode_23 : decode cX8_setNode 23 = .ok (.aload_n 0, 1) := by decide +kernel
theorem dX8_setNode_24 : decode cX8_setNode 24 = .ok (.bipush (-2), 2) := by decide +kernel
theorem dX8_setNode_26 : decode cX8_setNode 26 = .ok (.invokevirtual 32, 3) := by decide +kernel
theorem dX8_setNode_29 : decode cX8_setNode 29 = .ok (.ireturn, 1) := by decide +kernel
theorem dX8_setNode_30 : decode cX8_setNode 30 = .ok (.iload_n 2, 1) := by decide +kernel
theorem dX8_setNode_31 : decode cX8_setNode 31 = .ok (.iconst 1, 1) := by decide +kernel
theorem dX8_setNode_32 : decode cX8_setNode 32 = .ok (.if_icmp .ne 7, 3) := by decide +kernel
theorem dX8_setNode_35 : decode cX8_setNode 35 = .ok (.iconst 1, 1) := by decide +kernel
theorem dX8_setNode_36 : decode cX8_setNode 36 = .ok (.goto 4, 3) := by decide +kernel
theorem dX8_setNode_39 : decode cX8_setNode 39 = .ok (.iconst 0, 1) := by decide +kernel
theorem dX8_setNode_40 : decode cX8_setNode 40 = .ok (.istore_n 3, 1) := by decide +kernel
theorem dX8_setNode_41 : decode cX8_setNode 41 = .ok (.aload_n 0, 1) := by decide +kernel
theorem dX8_setNode_42 : decode cX8_setNode 42 = .ok (.getfield 20, 3) := by decide +kernel
theorem dX8_setNode_45 : decode cX8_setNode 45 = .ok (.getfield 36, 3) := by decide +kernel
theorem dX8_setNode_48 : decode cX8_setNode 48 = .ok (.iload_n 1, 1) := by decide +kernel
theorem dX8_setNode_49 : decode cX8_setNode 49 = .ok (.invokevirtual 60, 3) := by decide +kernel
theorem dX8_setNode_52 : decode cX8_setNode 52 = .ok (.iload_n 3, 1) := by decide +kernel
theorem dX8_setNode_53 : decode cX8_setNode 53 = .ok (.if_icmp .ne 10, 3) := by decide +kernel
theorem dX8_setNode_56 : decode cX8_setNode 56 = .ok (.aload_n 0, 1) := by decide +kernel
theorem dX8_setNode_57 : decode cX8_setNode 57 = .ok (.bipush (-3), 2) := by decide +kernel
theorem dX8_setNode_59 : decode cX8_setNode 59 = .ok (.invokevirtual 32, 3) := by decide +kernel
theorem dX8_setNode_62 : decode cX8_setNode 62 = .ok (.ireturn, 1) := by decide +kernel
theorem dX8_setNode_63 : decode cX8_setNode 63 = .ok (.aload_n 0, 1) := by decide +kernel
theorem dX8_setNode_64 : decode cX8_setNode 64 = .ok (.getfield 24, 3) := by decide +kernel
theorem dX8_setNode_67 : decode cX8_setNode 67 = .ok (.aload_n 0, 1) := by decide +kernel
theorem dX8_setNode_68 : decode cX8_setNode 68 = .ok (.getfield 20, 3) := by decide +kernel
theorem dX8_setNode_71 : decode cX8_setNode 71 = .ok (.invokevirtual 48, 3) := by decide +kernel
theorem dX8_setNode_74 : decode cX8_setNode 74 = .ok (.iload_n 3, 1) := by decide +kernel
theorem dX8_setNode_75 : decode cX8_setNode 75 = .ok (.ifCond .eq 14, 3) := by decide +kernel
theorem dX8_setNode_78 : decode cX8_setNode 78 = .ok (.aload_n 0, 1) := by decide +kernel
theorem dX8_setNode_79 : decode cX8_setNode 79 = .ok (.getfield 20, 3) := by decide +kernel
theorem dX8_setNode_82 : decode cX8_setNode 82 = .ok (.iload_n 1, 1) := by decide +kernel
theorem dX8_setNode_83 : decode cX8_setNode 83 = .ok (.invokevirtual 63, 3) := by decide +kernel
theorem dX8_setNode_86 : decode cX8_setNode 86 = .ok (.goto 11, 3) := by decide +kernel
theorem dX8_setNode_89 : decode cX8_setNode 89 = .ok (.aload_n 0, 1) := by decide +kernel
theorem dX8_setNode_90 : decode cX8_setNode 90 = .ok (.getfield 20, 3) := by decide +kernel
theorem dX8_setNode_93 : decode cX8_setNode 93 = .ok (.iload_n 1, 1) := by decide +kernel
theorem dX8_setNode_94 : decode cX8_setNode 94 = .ok (.invokevirtual 67, 3) := by decide +kernel
theorem dX8_setNode_97 : decode cX8_setNode 97 = .ok (.aload_n 0, 1) := by decide +kernel
theorem dX8_setNode_98 : decode cX8_setNode 98 = .ok (.getfield 20, 3) := by decide +kernel
theorem dX8_setNode_101 : decode cX8_setNode 101 = .ok (.invokevirtual 70, 3) := by decide +kernel
theorem dX8_setNode_104 : decode cX8_setNode 104 = .ok (.ireturn, 1) := by decide +kernel
theorem dX8_setReplication_0 : decode cX8_setReplication 0 = .ok (.iload_n 1, 1) := by decide +kernel
theorem dX8_setReplication_1 : decode cX8_setReplication 1 = .ok (.iconst 1, 1) := by decide +kernel
theorem dX8_setReplication_2 : decode cX8_setReplication 2 = .ok (.iconst 5, 1) := by decide +kernel
theorem dX8_setReplication_3 : decode cX8_setReplication 3 = .ok (.invokestatic 28, 3) := by decide +kernel
theorem dX8_setReplication_6 : decode cX8_setReplication 6 = .ok (.ifCond .ne 10, 3) := by decide +kernel
theorem dX8_setReplication_9 : decode cX8_setReplication 9 = .ok (.aload_n 0, 1) := by decide +kernel
theorem dX8_setReplication_10 : decode cX8_setReplication 10 = .ok (.bipush (-2), 2) := by decide +kernel
theorem dX8_setReplication_12 : decode cX8_setReplication 12 = .ok (.invokevirtual 32, 3) := by decide +kernel
theorem dX8_setReplication_15 : decode cX8_setReplication 15 = .ok (.ireturn, 1) := by decide +kernel
theorem dX8_setReplication_16 : decode cX8_setReplication 16 = .ok (.aload_n 0, 1) := by decide +kernel
theorem dX8_setReplication_17 : decode cX8_setReplication 17 = .ok (.getfield 24, 3) := by decide +kernel
theorem dX8_setReplication_20 : decode cX8_setReplication 20 = .ok (.aload_n 0, 1) := by decide +kernel
theorem dX8_setReplication_21 : decode cX8_setReplication 21 = .ok (.getfield 20, 3) := by decide +kernel
theorem dX8_setReplication_24 : decode cX8_setReplication 24 = .ok (.invokevirtual 48, 3) := by decide +kernel
theorem dX8_setReplication_27 : decode cX8_setReplication 27 = .ok (.aload_n 0, 1) := by decide +kernel
theorem dX8_setReplication_28 : decode cX8_setReplication 28 = .ok (.getfield 20, 3) := by decide +kernel
theorem dX8_setReplication_31 : decode cX8_setReplication 31 = .ok (.getfield 74, 3) := by decide +kernel
theorem dX8_setReplication_34 : decode cX8_setReplication 34 = .ok (.getfield 78, 3) := by decide +kernel
theorem dX8_setReplication_37 : decode cX8_setReplication 37 = .ok (.istore_n 2, 1) := by decide +kernel
theorem dX8_setReplication_38 : decode cX8_setReplication 38 = .ok (.aload_n 0, 1) := by decide +kernel
theorem dX8_setReplication_39 : decode cX8_setReplication 39 = .ok (.getfield 20, 3) := by decide +kernel
theorem dX8_setReplication_42 : decode cX8_setReplication 42 = .ok (.getfield 74, 3) := by decide +kernel
theorem dX8_setReplication_45 : decode cX8_setReplication 45 = .ok (.iload_n 1, 1) := by decide +kernel
theorem dX8_setReplication_46 : decode cX8_setReplication 46 = .ok (.putfield 78, 3) := by decide +kernel
theorem dX8_setReplication_49 : decode cX8_setReplication 49 = .ok (.iload_n 2, 1) := by decide +kernel
theorem dX8_setReplication_50 : decode cX8_setReplication 50 = .ok (.ireturn, 1) := by decide +kernel
theorem dX8_setSizes_0 : decode cX8_setSizes 0 = .ok (.iload_n 2, 1) := by decide +kernel
theorem dX8_setSizes_1 : decode cX8_setSizes 1 = .ok (.iconst 1, 1) := by decide +kernel
theorem dX8_setSizes_2 : decode cX8_setSizes 2 = .ok (.sipush 9999, 3) := by decide +kernel
theorem dX8_setSizes_5 : decode cX8_setSizes 5 = .ok (.invokestatic 28, 3) := by decide +kernel
theorem dX8_setSizes_8 : decode cX8_setSizes 8 = .ok (.ifCond .eq 12, 3) := by decide +kernel
theorem dX8_setSizes_11 : decode cX8_setSizes 11 = .ok (.iload_n 1, 1) := by decide +kernel
theorem dX8_setSizes_12 : decode cX8_setSizes 12 = .ok (.iconst 0, 1) := by decide +kernel
theorem dX8_setSizes_13 : decode cX8_setSizes 13 = .ok (.iload_n 2, 1) := by decide +kernel
theorem dX8_setSizes_14 : decode cX8_setSizes 14 = .ok (.invokestatic 28, 3) := by decide +kernel
theorem dX8_setSizes_17 : decode cX8_setSizes 17 = .ok (.ifCond .ne 10, 3) := by decide +kernel
theorem dX8_setSizes_20 : decode cX8_setSizes 20 = .ok (.aload_n 0, 1) := by decide +kernel
theorem dX8_setSizes_21 : decode cX8_setSizes 21 = .ok (.bipush (-2), 2) := by decide +kernel
theorem dX8_setSizes_23 : decode cX8_setSizes 23 = .ok (.invokevirtual 32, 3) := by decide +kernel
theorem dX8_setSizes_26 : decode cX8_setSizes 26 = .ok (.ireturn, 1) := by decide +kernel
theorem dX8_setSizes_27 : decode cX8_setSizes 27 = .ok (.aload_n 0, 1) := by decide +kernel
theorem dX8_setSizes_28 : decode cX8_setSizes 28 = .ok (.getfield 24, 3) := by decide +kernel
theorem dX8_setSizes_31 : decode cX8_setSizes 31 = .ok (.aload_n 0, 1) := by decide +kernel
theorem dX8_setSizes_32 : decode cX8_setSizes 32 = .ok (.getfield 20, 3) := by decide +kernel
theorem dX8_setSizes_35 : decode cX8_setSizes 35 = .ok (.invokevirtual 48, 3) := by decide +kernel
theorem dX8_setSizes_38 : decode cX8_setSizes 38 = .ok (.aload_n 0, 1) := by decide +kernel
theorem dX8_setSizes_39 : decode cX8_setSizes 39 = .ok (.getfield 20, 3) := by decide +kernel
theorem dX8_setSizes_42 : decode cX8_setSizes 42 = .ok (.getfield 74, 3) := by decide +kernel
theorem dX8_setSizes_45 : decode cX8_setSizes 45 = .ok (.getfield 83, 3) := by decide +kernel
theorem dX8_setSizes_48 : decode cX8_setSizes 48 = .ok (.istore_n 3, 1) := by decide +kernel
theorem dX8_setSizes_49 : decode cX8_setSizes 49 = .ok (.aload_n 0, 1) := by decide +kernel
theorem dX8_setSizes_50 : decode cX8_setSizes 50 = .ok (.getfield 20, 3) := by decide +kernel
theorem dX8_setSizes_53 : decode cX8_setSizes 53 = .ok (.getfield 74, 3) := by decide +kernel
theorem dX8_setSizes_56 : decode cX8_setSizes 56 = .ok (.iload_n 1, 1) := by decide +kernel
theorem dX8_setSizes_57 : decode cX8_setSizes 57 = .ok (.putfield 86, 3) := by decide +kernel
theorem dX8_setSizes_60 : decode cX8_setSizes 60 = .ok (.aload_n 0, 1) := by decide +kernel
theorem dX8_setSizes_61 : decode cX8_setSizes 61 = .ok (.getfield 20, 3) := by decide +kernel
theorem dX8_setSizes_64 : decode cX8_setSizes 64 = .ok (.getfield 74, 3) := by decide +kernel
theorem dX8_setSizes_67 : decode cX8_setSizes 67 = .ok (.iload_n 2, 1) := by decide +kernel
theorem dX8_setSizes_68 : decode cX8_setSizes 68 = .ok (.putfield 83, 3) := by decide +kernel
theorem dX8_setSizes_71 : decode cX8_setSizes 71 = .ok (.iload_n 3, 1) := by decide +kernel
theorem dX8_setSizes_72 : decode cX8_setSizes 72 = .ok (.ireturn, 1) := by decide +kernel
theorem dX8_setLoads_0 : decode cX8_setLoads 0 = .ok (.iload_n 2, 1) := by decide +kernel
theorem dX8_setLoads_1 : decode cX8_setLoads 1 = .ok (.iconst 1, 1) := by decide +kernel
theorem dX8_setLoads_2 : decode cX8_setLoads 2 = .ok (.bipush 32, 2) := by decide +kernel
theorem dX8_setLoads_4 : decode cX8_setLoads 4 = .ok (.invokestatic 28, 3) := by decide +kernel
theorem dX8_setLoads_7 : decode cX8_setLoads 7 = .ok (.ifCond .eq 12, 3) := by decide +kernel
theorem dX8_setLoads_10 : decode cX8_setLoads 10 = .ok (.iload_n 1, 1) := by decide +kernel
theorem dX8_setLoads_11 : decode cX8_setLoads 11 = .ok (.iconst 0, 1) := by decide +kernel
theorem dX8_setLoads_12 : decode cX8_setLoads 12 = .ok (.iload_n 2, 1) := by decide +kernel
theorem dX8_setLoads_13 : decode cX8_setLoads 13 = .ok (.invokestatic 28, 3) := by decide +kernel
theorem dX8_setLoads_16 : decode cX8_setLoads 16 = .ok (.ifCond .ne 10, 3) := by decide +kernel
theorem dX8_setLoads_19 : decode cX8_setLoads 19 = .ok (.aload_n 0, 1) := by decide +kernel
theorem dX8_setLoads_20 : decode cX8_setLoads 20 = .ok (.bipush (-2), 2) := by decide +kernel
theorem dX8_setLoads_22 : decode cX8_setLoads 22 = .ok (.invokevirtual 32, 3) := by decide +kernel
theorem dX8_setLoads_25 : decode cX8_setLoads 25 = .ok (.ireturn, 1) := by decide +kernel
theorem dX8_setLoads_26 : decode cX8_setLoads 26 = .ok (.aload_n 0, 1) := by decide +kernel
theorem dX8_setLoads_27 : decode cX8_setLoads 27 = .ok (.getfield 24, 3) := by decide +kernel
theorem dX8_setLoads_30 : decode cX8_setLoads 30 = .ok (.aload_n 0, 1) := by decide +kernel
theorem dX8_setLoads_31 : decode cX8_setLoads 31 = .ok (.getfield 20, 3) := by decide +kernel
theorem dX8_setLoads_34 : decode cX8_setLoads 34 = .ok (.invokevirtual 48, 3) := by decide +kernel
theorem dX8_setLoads_37 : decode cX8_setLoads 37 = .ok (.aload_n 0, 1) := by decide +kernel
theorem dX8_setLoads_38 : decode cX8_setLoads 38 = .ok (.getfield 20, 3) := by decide +kernel
theorem dX8_setLoads_41 : decode cX8_setLoads 41 = .ok (.getfield 74, 3) := by decide +kernel
theorem dX8_setLoads_44 : decode cX8_setLoads 44 = .ok (.getfield 89, 3) := by decide +kernel
theorem dX8_setLoads_47 : decode cX8_setLoads 47 = .ok (.istore_n 3, 1) := by decide +kernel
theorem dX8_setLoads_48 : decode cX8_setLoads 48 = .ok (.aload_n 0, 1) := by decide +kernel
theorem dX8_setLoads_49 : decode cX8_setLoads 49 = .ok (.getfield 20, 3) := by decide +kernel
theorem dX8_setLoads_52 : decode cX8_setLoads 52 = .ok (.getfield 74, 3) := by decide +kernel
theorem dX8_setLoads_55 : decode cX8_setLoads 55 = .ok (.iload_n 1, 1) := by decide +kernel
theorem dX8_setLoads_56 : decode cX8_setLoads 56 = .ok (.putfield 92, 3) := by decide +kernel
theorem dX8_setLoads_59 : decode cX8_setLoads 59 = .ok (.aload_n 0, 1) := by decide +kernel
theorem dX8_setLoads_60 : decode cX8_setLoads 60 = .ok (.getfield 20, 3) := by decide +kernel
theorem dX8_setLoads_63 : decode cX8_setLoads 63 = .ok (.getfield 74, 3) := by decide +kernel
theorem dX8_setLoads_66 : decode cX8_setLoads 66 = .ok (.iload_n 2, 1) := by decide +kernel
theorem dX8_setLoads_67 : decode cX8_setLoads 67 = .ok (.putfield 89, 3) := by decide +kernel
theorem dX8_setLoads_70 : decode cX8_setLoads 70 = .ok (.iload_n 3, 1) := by decide +kernel
theorem dX8_setLoads_71 : decode cX8_setLoads 71 = .ok (.ireturn, 1) := by decide +kernel
theorem dX8_setSpeed_0 : decode cX8_setSpeed 0 = .ok (.iload_n 1, 1) := by decide +kernel
theorem dX8_setSpeed_1 : decode cX8_setSpeed 1 = .ok (.iconst 1, 1) := by decide +kernel
theorem dX8_setSpeed_2 : decode cX8_setSpeed 2 = .ok (.bipush 99, 2) := by decide +kernel
theorem dX8_setSpeed_4 : decode cX8_setSpeed 4 = .ok (.invokestatic 28, 3) := by decide +kernel
theorem dX8_setSpeed_7 : decode cX8_setSpeed 7 = .ok (.ifCond .ne 10, 3) := by decide +kernel
theorem dX8_setSpeed_10 : decode cX8_setSpeed 10 = .ok (.aload_n 0, 1) := by decide +kernel
theorem dX8_setSpeed_11 : decode cX8_setSpeed 11 = .ok (.bipush (-2), 2) := by decide +kernel
theorem dX8_setSpeed_13 : decode cX8_setSpeed 13 = .ok (.invokevirtual 32, 3) := by decide +kernel
theorem dX8_setSpeed_16 : decode cX8_setSpeed 16 = .ok (.ireturn, 1) := by decide +kernel
theorem dX8_setSpeed_17 : decode cX8_setSpeed 17 = .ok (.aload_n 0, 1) := by decide +kernel
theorem dX8_setSpeed_18 : decode cX8_setSpeed 18 = .ok (.getfield 24, 3) := by decide +kernel
theorem dX8_setSpeed_21 : decode cX8_setSpeed 21 = .ok (.aload_n 0, 1) := by decide +kernel
theorem dX8_setSpeed_22 : decode cX8_setSpeed 22 = .ok (.getfield 20, 3) := by decide +kernel
theorem dX8_setSpeed_25 : decode cX8_setSpeed 25 = .ok (.invokevirtual 48, 3) := by decide +kernel
theorem dX8_setSpeed_28 : decode cX8_setSpeed 28 = .ok (.aload_n 0, 1) := by decide +kernel
theorem dX8_setSpeed_29 : decode cX8_setSpeed 29 = .ok (.getfield 20, 3) := by decide +kernel
theorem dX8_setSpeed_32 : decode cX8_setSpeed 32 = .ok (.getfield 74, 3) := by decide +kernel
theorem dX8_setSpeed_35 : decode cX8_setSpeed 35 = .ok (.getfield 95, 3) := by decide +kernel
theorem dX8_setSpeed_38 : decode cX8_setSpeed 38 = .ok (.istore_n 2, 1) := by decide +kernel
theorem dX8_setSpeed_39 : decode cX8_setSpeed 39 = .ok (.aload_n 0, 1) := by decide +kernel
theorem dX8_setSpeed_40 : decode cX8_setSpeed 40 = .ok (.getfield 20, 3) := by decide +kernel
theorem dX8_setSpeed_43 : decode cX8_setSpeed 43 = .ok (.getfield 74, 3) := by decide +kernel
theorem dX8_setSpeed_46 : decode cX8_setSpeed 46 = .ok (.iload_n 1, 1) := by decide +kernel
theorem dX8_setSpeed_47 : decode cX8_setSpeed 47 = .ok (.putfield 95, 3) := by decide +kernel
theorem dX8_setSpeed_50 : decode cX8_setSpeed 50 = .ok (.iload_n 2, 1) := by decide +kernel
theorem dX8_setSpeed_51 : decode cX8_setSpeed 51 = .ok (.ireturn, 1) := by decide +kernel
theorem dX8_put_0 : decode cX8_put 0 = .ok (.iload_n 1, 1) := by decide +kernel
theorem dX8_put_1 : decode cX8_put 1 = .ok (.invokestatic 98, 3) := by decide +kernel
theorem dX8_put_4 : decode cX8_put 4 = .ok (.ifCond .eq 13, 3) := by decide +kernel
theorem dX8_put_7 : decode cX8_put 7 = .ok (.iload_n 2, 1) := by decide +kernel
theorem dX8_put_8 : decode cX8_put 8 = .ok (.iconst 1, 1) := by decide +kernel
theorem dX8_put_9 : decode cX8_put 9 = .ok (.bipush 99, 2) := by decide +kernel
theorem dX8_put_11 : decode cX8_put 11 = .ok (.invokestatic 28, 3) := by decide +kernel
theorem dX8_put_14 : decode cX8_put 14 = .ok (.ifCond .ne 10, 3) := by decide +kernel
theorem dX8_put_17 : decode cX8_put 17 = .ok (.aload_n 0, 1) := by decide +kernel
theorem dX8_put_18 : decode cX8_put 18 = .ok (.bipush (-2), 2) := by decide +kernel
theorem dX8_put_20 : decode cX8_put 20 = .ok (.invokevirtual 32, 3) := by decide +kernel
theorem dX8_put_23 : decode cX8_put 23 = .ok (.ireturn, 1) := by decide +kernel
theorem dX8_put_24 : decode cX8_put 24 = .ok (.aload_n 0, 1) := by decide +kernel
theorem dX8_put_25 : decode cX8_put 25 = .ok (.getfield 20, 3) := by decide +kernel
theorem dX8_put_28 : decode cX8_put 28 = .ok (.getfield 101, 3) := by decide +kernel
theorem dX8_put_31 : decode cX8_put 31 = .ok (.iload_n 1, 1) := by decide +kernel
theorem dX8_put_32 : decode cX8_put 32 = .ok (.invokevirtual 105, 3) := by decide +kernel
theorem dX8_put_35 : decode cX8_put 35 = .ok (.istore_n 3, 1) := by decide +kernel
theorem dX8_put_36 : decode cX8_put 36 = .ok (.iload_n 3, 1) := by decide +kernel
theorem dX8_put_37 : decode cX8_put 37 = .ok (.ifCond .ne 25, 3) := by decide +kernel
theorem dX8_put_40 : decode cX8_put 40 = .ok (.aload_n 0, 1) := by decide +kernel
theorem dX8_put_41 : decode cX8_put 41 = .ok (.getfield 20, 3) := by decide +kernel
theorem dX8_put_44 : decode cX8_put 44 = .ok (.getfield 101, 3) := by decide +kernel
theorem dX8_put_47 : decode cX8_put 47 = .ok (.getfield 110, 3) := by decide +kernel
theorem dX8_put_50 : decode cX8_put 50 = .ok (.bipush 64, 2) := by decide +kernel
theorem dX8_put_52 : decode cX8_put 52 = .ok (.if_icmp .lt 10, 3) := by decide +kernel
theorem dX8_put_55 : decode cX8_put 55 = .ok (.aload_n 0, 1) := by decide +kernel
theorem dX8_put_56 : decode cX8_put 56 = .ok (.bipush (-4), 2) := by decide +kernel
theorem dX8_put_58 : decode cX8_put 58 = .ok (.invokevirtual 32, 3) := by decide +kernel
theorem dX8_put_61 : decode cX8_put 61 = .ok (.ireturn, 1) := by decide +kernel
theorem dX8_put_62 : decode cX8_put 62 = .ok (.aload_n 0, 1) := by decide +kernel
theorem dX8_put_63 : decode cX8_put 63 = .ok (.getfield 24, 3) := by decide +kernel
theorem dX8_put_66 : decode cX8_put 66 = .ok (.aload_n 0, 1) := by decide +kernel
theorem dX8_put_67 : decode cX8_put 67 = .ok (.getfield 20, 3) := by decide +kernel
theorem dX8_put_70 : decode cX8_put 70 = .ok (.invokevirtual 48, 3) := by decide +kernel
theorem dX8_put_73 : decode cX8_put 73 = .ok (.aload_n 0, 1) := by decide +kernel
theorem dX8_put_74 : decode cX8_put 74 = .ok (.getfield 20, 3) := by decide +kernel
theorem dX8_put_77 : decode cX8_put 77 = .ok (.getfield 101, 3) := by decide +kernel
theorem dX8_put_80 : decode cX8_put 80 = .ok (.iload_n 1, 1) := by decide +kernel
theorem dX8_put_81 : decode cX8_put 81 = .ok (.iload_n 2, 1) := by decide +kernel
theorem dX8_put_82 : decode cX8_put 82 = .ok (.invokevirtual 111, 3) := by decide +kernel
theorem dX8_put_85 : decode cX8_put 85 = .ok (.iload_n 3, 1) := by decide +kernel
theorem dX8_put_86 : decode cX8_put 86 = .ok (.ireturn, 1) := by decide +kernel
theorem dX8_remove_0 : decode cX8_remove 0 = .ok (.iload_n 1, 1) := by decide +kernel
theorem dX8_remove_1 : decode cX8_remove 1 = .ok (.invokestatic 98, 3) := by decide +kernel
theorem dX8_remove_4 : decode cX8_remove 4 = .ok (.ifCond .ne 10, 3) := by decide +kernel
theorem dX8_remove_7 : decode cX8_remove 7 = .ok (.aload_n 0, 1) := by decide +kernel
theorem dX8_remove_8 : decode cX8_remove 8 = .ok (.bipush (-2), 2) := by decide +kernel
theorem dX8_remove_10 : decode cX8_remove 10 = .ok (.invokevirtual 32, 3) := by decide +kernel
theorem dX8_remove_13 : decode cX8_remove 13 = .ok (.ireturn, 1) := by decide +kernel
theorem dX8_remove_14 : decode cX8_remove 14 = .ok (.aload_n 0, 1) := by decide +kernel
theorem dX8_remove_15 : decode cX8_remove 15 = .ok (.getfield 20, 3) := by decide +kernel
theorem dX8_remove_18 : decode cX8_remove 18 = .ok (.getfield 101, 3) := by decide +kernel
theorem dX8_remove_21 : decode cX8_remove 21 = .ok (.iload_n 1, 1) := by decide +kernel
theorem dX8_remove_22 : decode cX8_remove 22 = .ok (.invokevirtual 105, 3) := by decide +kernel
theorem dX8_remove_25 : decode cX8_remove 25 = .ok (.istore_n 2, 1) := by decide +kernel
theorem dX8_remove_26 : decode cX8_remove 26 = .ok (.iload_n 2, 1) := by decide +kernel
theorem dX8_remove_27 : decode cX8_remove 27 = .ok (.ifCond .ne 10, 3) := by decide +kernel
theorem dX8_remove_30 : decode cX8_remove 30 = .ok (.aload_n 0, 1) := by decide +kernel
theorem dX8_remove_31 : decode cX8_remove 31 = .ok (.bipush (-3), 2) := by decide +kernel
theorem dX8_remove_33 : decode cX8_remove 33 = .ok (.invokevirtual 32, 3) := by decide +kernel
theorem dX8_remove_36 : decode cX8_remove 36 = .ok (.ireturn, 1) := by decide +kernel
theorem dX8_remove_37 : decode cX8_remove 37 = .ok (.aload_n 0, 1) := by decide +kernel
theorem dX8_remove_38 : decode cX8_remove 38 = .ok (.getfield 24, 3) := by decide +kernel
theorem dX8_remove_41 : decode cX8_remove 41 = .ok (.aload_n 0, 1) := by decide +kernel
theorem dX8_remove_42 : decode cX8_remove 42 = .ok (.getfield 20, 3) := by decide +kernel
theorem dX8_remove_45 : decode cX8_remove 45 = .ok (.invokevirtual 48, 3) := by decide +kernel
theorem dX8_remove_48 : decode cX8_remove 48 = .ok (.aload_n 0, 1) := by decide +kernel
theorem dX8_remove_49 : decode cX8_remove 49 = .ok (.getfield 20, 3) := by decide +kernel
theorem dX8_remove_52 : decode cX8_remove 52 = .ok (.getfield 101, 3) := by decide +kernel
theorem dX8_remove_55 : decode cX8_remove 55 = .ok (.iload_n 1, 1) := by decide +kernel
theorem dX8_remove_56 : decode cX8_remove 56 = .ok (.invokevirtual 115, 3) := by decide +kernel
theorem dX8_remove_59 : decode cX8_remove 59 = .ok (.iload_n 2, 1) := by decide +kernel
theorem dX8_remove_60 : decode cX8_remove 60 = .ok (.ireturn, 1) := by decide +kernel
theorem dX8_access_0 : decode cX8_access 0 = .ok (.iload_n 1, 1) := by decide +kernel
theorem dX8_access_1 : decode cX8_access 1 = .ok (.invokestatic 98, 3) := by decide +kernel
theorem dX8_access_4 : decode cX8_access 4 = .ok (.ifCond .ne 10, 3) := by decide +kernel
theorem dX8_access_7 : decode cX8_access 7 = .ok (.aload_n 0, 1) := by decide +kernel
theorem dX8_access_8 : decode cX8_access 8 = .ok (.bipush (-2), 2) := by decide +kernel
theorem dX8_access_10 : decode cX8_access 10 = .ok (.invokevirtual 32, 3) := by decide +kernel
theorem dX8_access_13 : decode cX8_access 13 = .ok (.ireturn, 1) := by decide +kernel
theorem dX8_access_14 : decode cX8_access 14 = .ok (.aload_n 0, 1) := by decide +kernel
theorem dX8_access_15 : decode cX8_access 15 = .ok (.getfield 24, 3) := by decide +kernel
theorem dX8_access_18 : decode cX8_access 18 = .ok (.aload_n 0, 1) := by decide +kernel
theorem dX8_access_19 : decode cX8_access 19 = .ok (.getfield 20, 3) := by decide +kernel
theorem dX8_access_22 : decode cX8_access 22 = .ok (.invokevirtual 48, 3) := by decide +kernel
theorem dX8_access_25 : decode cX8_access 25 = .ok (.aload_n 0, 1) := by decide +kernel
theorem dX8_access_26 : decode cX8_access 26 = .ok (.getfield 20, 3) := by decide +kernel
theorem dX8_access_29 : decode cX8_access 29 = .ok (.getfield 118, 3) := by decide +kernel
theorem dX8_access_32 : decode cX8_access 32 = .ok (.iload_n 1, 1) := by decide +kernel
theorem dX8_access_33 : decode cX8_access 33 = .ok (.invokevirtual 122, 3) := by decide +kernel
theorem dX8_access_36 : decode cX8_access 36 = .ok (.aload_n 0, 1) := by decide +kernel
theorem dX8_access_37 : decode cX8_access 37 = .ok (.getfield 20, 3) := by decide +kernel
theorem dX8_access_40 : decode cX8_access 40 = .ok (.getfield 126, 3) := by decide +kernel
theorem dX8_access_43 : decode cX8_access 43 = .ok (.getfield 130, 3) := by decide +kernel
theorem dX8_access_46 : decode cX8_access 46 = .ok (.aload_n 0, 1) := by decide +kernel
theorem dX8_access_47 : decode cX8_access 47 = .ok (.getfield 20, 3) := by decide +kernel
theorem dX8_access_50 : decode cX8_access 50 = .ok (.getfield 126, 3) := by decide +kernel
theorem dX8_access_53 : decode cX8_access 53 = .ok (.iload_n 1, 1) := by decide +kernel
theorem dX8_access_54 : decode cX8_access 54 = .ok (.invokevirtual 136, 3) := by decide +kernel
theorem dX8_access_57 : decode cX8_access 57 = .ok (.iaload, 1) := by decide +kernel
theorem dX8_access_58 : decode cX8_access 58 = .ok (.ireturn, 1) := by decide +kernel
theorem dX8_splitAt_0 : decode cX8_splitAt 0 = .ok (.iload_n 1, 1) := by decide +kernel
theorem dX8_splitAt_1 : decode cX8_splitAt 1 = .ok (.invokestatic 98, 3) := by decide +kernel
theorem dX8_splitAt_4 : decode cX8_splitAt 4 = .ok (.ifCond .ne 10, 3) := by decide +kernel
theorem dX8_splitAt_7 : decode cX8_splitAt 7 = .ok (.aload_n 0, 1) := by decide +kernel
theorem dX8_splitAt_8 : decode cX8_splitAt 8 = .ok (.bipush (-2), 2) := by decide +kernel
theorem dX8_splitAt_10 : decode cX8_splitAt 10 = .ok (.invokevirtual 32, 3) := by decide +kernel
theorem dX8_splitAt_13 : decode cX8_splitAt 13 = .ok (.ireturn, 1) := by decide +kernel
theorem dX8_splitAt_14 : decode cX8_splitAt 14 = .ok (.aload_n 0, 1) := by decide +kernel
theorem dX8_splitAt_15 : decode cX8_splitAt 15 = .ok (.getfield 20, 3) := by decide +kernel
theorem dX8_splitAt_18 : decode cX8_splitAt 18 = .ok (.getfield 126, 3) := by decide +kernel
theorem dX8_splitAt_21 : decode cX8_splitAt 21 = .ok (.iload_n 1, 1) := by decide +kernel
theorem dX8_splitAt_22 : decode cX8_splitAt 22 = .ok (.invokevirtual 136, 3) := by decide +kernel
theorem dX8_splitAt_25 : decode cX8_splitAt 25 = .ok (.istore_n 2, 1) := by decide +kernel
theorem dX8_splitAt_26 : decode cX8_splitAt 26 = .ok (.aload_n 0, 1) := by decide +kernel
theorem dX8_splitAt_27 : decode cX8_splitAt 27 = .ok (.getfield 20, 3) := by decide +kernel
theorem dX8_splitAt_30 : decode cX8_splitAt 30 = .ok (.getfield 126, 3) := by decide +kernel
theorem dX8_splitAt_33 : decode cX8_splitAt 33 = .ok (.getfield 139, 3) := by decide +kernel
theorem dX8_splitAt_36 : decode cX8_splitAt 36 = .ok (.iload_n 2, 1) := by decide +kernel
theorem dX8_splitAt_37 : decode cX8_splitAt 37 = .ok (.iaload, 1) := by decide +kernel
theorem dX8_splitAt_38 : decode cX8_splitAt 38 = .ok (.iload_n 1, 1) := by decide +kernel
theorem dX8_splitAt_39 : decode cX8_splitAt 39 = .ok (.if_icmp .eq 17, 3) := by decide +kernel
theorem dX8_splitAt_42 : decode cX8_splitAt 42 = .ok (.aload_n 0, 1) := by decide +kernel
theorem dX8_splitAt_43 : decode cX8_splitAt 43 = .ok (.getfield 20, 3) := by decide +kernel
theorem dX8_splitAt_46 : decode cX8_splitAt 46 = .ok (.getfield 126, 3) := by decide +kernel
theorem dX8_splitAt_49 : decode cX8_splitAt 49 = .ok (.iload_n 2, 1) := by decide +kernel
theorem dX8_splitAt_50 : decode cX8_splitAt 50 = .ok (.invokevirtual 142, 3) := by decide +kernel
theorem dX8_splitAt_53 : decode cX8_splitAt 53 = .ok (.ifCond .eq 10, 3) := by decide +kernel
theorem dX8_splitAt_56 : decode cX8_splitAt 56 = .ok (.aload_n 0, 1) := by decide +kernel
theorem dX8_splitAt_57 : decode cX8_splitAt 57 = .ok (.bipush (-3), 2) := by decide +kernel
theorem dX8_splitAt_59 : decode cX8_splitAt 59 = .ok (.invokevirtual 32, 3) := by decide +kernel
theorem dX8_splitAt_62 : decode cX8_splitAt 62 = .ok (.ireturn, 1) := by decide +kernel
theorem dX8_splitAt_63 : decode cX8_splitAt 63 = .ok (.aload_n 0, 1) := by decide +kernel
theorem dX8_splitAt_64 : decode cX8_splitAt 64 = .ok (.getfield 20, 3) := by decide +kernel
theorem dX8_splitAt_67 : decode cX8_splitAt 67 = .ok (.getfield 126, 3) := by decide +kernel
theorem dX8_splitAt_70 : decode cX8_splitAt 70 = .ok (.invokevirtual 145, 3) := by decide +kernel
theorem dX8_splitAt_73 : decode cX8_splitAt 73 = .ok (.ifCond .eq 10, 3) := by decide +kernel
theorem dX8_splitAt_76 : decode cX8_splitAt 76 = .ok (.aload_n 0, 1) := by decide +kernel
theorem dX8_splitAt_77 : decode cX8_splitAt 77 = .ok (.bipush (-4), 2) := by decide +kernel
theorem dX8_splitAt_79 : decode cX8_splitAt 79 = .ok (.invokevirtual 32, 3) := by decide +kernel
theorem dX8_splitAt_82 : decode cX8_splitAt 82 = .ok (.ireturn, 1) := by decide +kernel
theorem dX8_splitAt_83 : decode cX8_splitAt 83 = .ok (.aload_n 0, 1) := by decide +kernel
theorem dX8_splitAt_84 : decode cX8_splitAt 84 = .ok (.getfield 24, 3) := by decide +kernel
theorem dX8_splitAt_87 : decode cX8_splitAt 87 = .ok (.aload_n 0, 1) := by decide +kernel
theorem dX8_splitAt_88 : decode cX8_splitAt 88 = .ok (.getfield 20, 3) := by decide +kernel
theorem dX8_splitAt_91 : decode cX8_splitAt 91 = .ok (.invokevirtual 48, 3) := by decide +kernel
theorem dX8_splitAt_94 : decode cX8_splitAt 94 = .ok (.aload_n 0, 1) := by decide +kernel
theorem dX8_splitAt_95 : decode cX8_splitAt 95 = .ok (.getfield 20, 3) := by decide +kernel
theorem dX8_splitAt_98 : decode cX8_splitAt 98 = .ok (.getfield 126, 3) := by decide +kernel
theorem dX8_splitAt_101 : decode cX8_splitAt 101 = .ok (.iload_n 2, 1) := by decide +kernel
theorem dX8_splitAt_102 : decode cX8_splitAt 102 = .ok (.iload_n 1, 1) := by decide +kernel
theorem dX8_splitAt_103 : decode cX8_splitAt 103 = .ok (.invokevirtual 149, 3) := by decide +kernel
theorem dX8_splitAt_106 : decode cX8_splitAt 106 = .ok (.iload_n 2, 1) := by decide +kernel
theorem dX8_splitAt_107 : decode cX8_splitAt 107 = .ok (.iconst 1, 1) := by decide +kernel
theorem dX8_splitAt_108 : decode cX8_splitAt 108 = .ok (.iadd, 1) := by decide +kernel
theorem dX8_splitAt_109 : decode cX8_splitAt 109 = .ok (.ireturn, 1) := by decide +kernel
theorem dX8_sizeOf_0 : decode cX8_sizeOf 0 = .ok (.iload_n 1, 1) := by decide +kernel
theorem dX8_sizeOf_1 : decode cX8_sizeOf 1 = .ok (.invokestatic 98, 3) := by decide +kernel
theorem dX8_sizeOf_4 : decode cX8_sizeOf 4 = .ok (.ifCond .ne 10, 3) := by decide +kernel
theorem dX8_sizeOf_7 : decode cX8_sizeOf 7 = .ok (.aload_n 0, 1) := by decide +kernel
theorem dX8_sizeOf_8 : decode cX8_sizeOf 8 = .ok (.bipush (-2), 2) := by decide +kernel
theorem dX8_sizeOf_10 : decode cX8_sizeOf 10 = .ok (.invokevirtual 32, 3) := by decide +kernel
theorem dX8_sizeOf_13 : decode cX8_sizeOf 13 = .ok (.ireturn, 1) := by decide +kernel
theorem dX8_sizeOf_14 : decode cX8_sizeOf 14 = .ok (.aload_n 0, 1) := by decide +kernel
theorem dX8_sizeOf_15 : decode cX8_sizeOf 15 = .ok (.getfield 20, 3) := by decide +kernel
theorem dX8_sizeOf_18 : decode cX8_sizeOf 18 = .ok (.getfield 101, 3) := by decide +kernel
theorem dX8_sizeOf_21 : decode cX8_sizeOf 21 = .ok (.iload_n 1, 1) := by decide +kernel
theorem dX8_sizeOf_22 : decode cX8_sizeOf 22 = .ok (.invokevirtual 105, 3) := by decide +kernel
theorem dX8_sizeOf_25 : decode cX8_sizeOf 25 = .ok (.ireturn, 1) := by decide +kernel
theorem dX8_tick_0 : decode cX8_tick 0 = .ok (.aload_n 0, 1) := by decide +kernel
theorem dX8_tick_1 : decode cX8_tick 1 = .ok (.getfield 24, 3) := by decide +kernel
theorem dX8_tick_4 : decode cX8_tick 4 = .ok (.aload_n 0, 1) := by decide +kernel
theorem dX8_tick_5 : decode cX8_tick 5 = .ok (.getfield 20, 3) := by decide +kernel
theorem dX8_tick_8 : decode cX8_tick 8 = .ok (.invokevirtual 48, 3) := by decide +kernel
theorem dX8_tick_11 : decode cX8_tick 11 = .ok (.aload_n 0, 1) := by decide +kernel
theorem dX8_tick_12 : decode cX8_tick 12 = .ok (.getfield 12, 3) := by decide +kernel
theorem dX8_tick_15 : decode cX8_tick 15 = .ok (.invokevirtual 152, 3) := by decide +kernel
theorem dX8_tick_18 : decode cX8_tick 18 = .ok (.ireturn, 1) := by decide +kernel
theorem dX8_settle_0 : decode cX8_settle 0 = .ok (.iload_n 1, 1) := by decide +kernel
theorem dX8_settle_1 : decode cX8_settle 1 = .ok (.iconst 1, 1) := by decide +kernel
theorem dX8_settle_2 : decode cX8_settle 2 = .ok (.sipush 200, 3) := by decide +kernel
theorem dX8_settle_5 : decode cX8_settle 5 = .ok (.invokestatic 28, 3) := by decide +kernel
theorem dX8_settle_8 : decode cX8_settle 8 = .ok (.ifCond .ne 10, 3) := by decide +kernel
theorem dX8_settle_11 : decode cX8_settle 11 = .ok (.aload_n 0, 1) := by decide +kernel
theorem dX8_settle_12 : decode cX8_settle 12 = .ok (.bipush (-2), 2) := by decide +kernel
theorem dX8_settle_14 : decode cX8_settle 14 = .ok (.invokevirtual 32, 3) := by decide +kernel
theorem dX8_settle_17 : decode cX8_settle 17 = .ok (.ireturn, 1) := by decide +kernel
theorem dX8_settle_18 : decode cX8_settle 18 = .ok (.aload_n 0, 1) := by decide +kernel
theorem dX8_settle_19 : decode cX8_settle 19 = .ok (.getfield 24, 3) := by decide +kernel
theorem dX8_settle_22 : decode cX8_settle 22 = .ok (.aload_n 0, 1) := by decide +kernel
theorem dX8_settle_23 : decode cX8_settle 23 = .ok (.getfield 20, 3) := by decide +kernel
theorem dX8_settle_26 : decode cX8_settle 26 = .ok (.invokevirtual 48, 3) := by decide +kernel
theorem dX8_settle_29 : decode cX8_settle 29 = .ok (.iconst 0, 1) := by decide +kernel
theorem dX8_settle_30 : decode cX8_settle 30 = .ok (.istore_n 2, 1) := by decide +kernel
theorem dX8_settle_31 : decode cX8_settle 31 = .ok (.iconst 0, 1) := by decide +kernel
theorem dX8_settle_32 : decode cX8_settle 32 = .ok (.istore_n 3, 1) := by decide +kernel
theorem dX8_settle_33 : decode cX8_settle 33 = .ok (.iload_n 2, 1) := by decide +kernel
theorem dX8_settle_34 : decode cX8_settle 34 = .ok (.iload_n 1, 1) := by decide +kernel
theorem dX8_settle_35 : decode cX8_settle 35 = .ok (.if_icmp .ge 54, 3) := by decide +kernel
theorem dX8_settle_38 : decode cX8_settle 38 = .ok (.iload_n 3, 1) := by decide +kernel
theorem dX8_settle_39 : decode cX8_settle 39 = .ok (.ifCond .ne 50, 3) := by decide +kernel
theorem dX8_settle_42 : decode cX8_settle 42 = .ok (.aload_n 0, 1) := by decide +kernel
theorem dX8_settle_43 : decode cX8_settle 43 = .ok (.getfield 12, 3) := by decide +kernel
theorem dX8_settle_46 : decode cX8_settle 46 = .ok (.invokevirtual 152, 3) := by decide +kernel
theorem dX8_settle_49 : decode cX8_settle 49 = .ok (.ifCond .eq 7, 3) := by decide +kernel
theorem dX8_settle_52 : decode cX8_settle 52 = .ok (.iconst 1, 1) := by decide +kernel
theorem dX8_settle_53 : decode cX8_settle 53 = .ok (.goto 4, 3) := by decide +kernel
theorem dX8_settle_56 : decode cX8_settle 56 = .ok (.iconst 0, 1) := by decide +kernel
theorem dX8_settle_57 : decode cX8_settle 57 = .ok (.istore 4, 2) := by decide +kernel
theorem dX8_settle_59 : decode cX8_settle 59 = .ok (.iinc 2 1, 3) := by decide +kernel
theorem dX8_settle_62 : decode cX8_settle 62 = .ok (.iload 4, 2) := by decide +kernel
theorem dX8_settle_64 : decode cX8_settle 64 = .ok (.ifCond .ne 20, 3) := by decide +kernel
theorem dX8_settle_67 : decode cX8_settle 67 = .ok (.aload_n 0, 1) := by decide +kernel
theorem dX8_settle_68 : decode cX8_settle 68 = .ok (.getfield 20, 3) := by decide +kernel
theorem dX8_settle_71 : decode cX8_settle 71 = .ok (.getfield 126, 3) := by decide +kernel
theorem dX8_settle_74 : decode cX8_settle 74 = .ok (.invokevirtual 155, 3) := by decide +kernel
theorem dX8_settle_77 : decode cX8_settle 77 = .ok (.ifCond .ne 7, 3) := by decide +kernel
theorem dX8_settle_80 : decode cX8_settle 80 = .ok (.iconst 1, 1) := by decide +kernel
theorem dX8_settle_81 : decode cX8_settle 81 = .ok (.goto 4, 3) := by decide +kernel
theorem dX8_settle_84 : decode cX8_settle 84 = .ok (.iconst 0, 1) := by decide +kernel
theorem dX8_settle_85 : decode cX8_settle 85 = .ok (.istore_n 3, 1) := by decide +kernel
theorem dX8_settle_86 : decode cX8_settle 86 = .ok (.goto (-53), 3) := by decide +kernel
theorem dX8_settle_89 : decode cX8_settle 89 = .ok (.iload_n 2, 1) := by decide +kernel
theorem dX8_settle_90 : decode cX8_settle 90 = .ok (.ireturn, 1) := by decide +kernel
theorem dX8_performed_0 : decode cX8_performed 0 = .ok (.iload_n 1, 1) := by decide +kernel
theorem dX8_performed_1 : decode cX8_performed 1 = .ok (.iconst 1, 1) := by decide +kernel
theorem dX8_performed_2 : decode cX8_performed 2 = .ok (.bipush 8, 2) := by decide +kernel
theorem dX8_performed_4 : decode cX8_performed 4 = .ok (.invokestatic 28, 3) := by decide +kernel
theorem dX8_performed_7 : decode cX8_performed 7 = .ok (.ifCond .ne 10, 3) := by decide +kernel
theorem dX8_performed_10 : decode cX8_performed 10 = .ok (.aload_n 0, 1) := by decide +kernel
theorem dX8_performed_11 : decode cX8_performed 11 = .ok (.bipush (-2), 2) := by decide +kernel
theorem dX8_performed_13 : decode cX8_performed 13 = .ok (.invokevirtual 32, 3) := by decide +kernel
theorem dX8_performed_16 : decode cX8_performed 16 = .ok (.ireturn, 1) := by decide +kernel
theorem dX8_performed_17 : decode cX8_performed 17 = .ok (.aload_n 0, 1) := by decide +kernel
theorem dX8_performed_18 : decode cX8_performed 18 = .ok (.getfield 20, 3) := by decide +kernel
theorem dX8_performed_21 : decode cX8_performed 21 = .ok (.getfield 158, 3) := by decide +kernel
theorem dX8_performed_24 : decode cX8_performed 24 = .ok (.iload_n 1, 1) := by decide +kernel
theorem dX8_performed_25 : decode cX8_performed 25 = .ok (.iaload, 1) := by decide +kernel
theorem dX8_performed_26 : decode cX8_performed 26 = .ok (.ireturn, 1) := by decide +kernel
theorem dX8_time_0 : decode cX8_time 0 = .ok (.aload_n 0, 1) := by decide +kernel
theorem dX8_time_1 : decode cX8_time 1 = .ok (.getfield 20, 3) := by decide +kernel
theorem dX8_time_4 : decode cX8_time 4 = .ok (.getfield 161, 3) := by decide +kernel
theorem dX8_time_7 : decode cX8_time 7 = .ok (.ireturn, 1) := by decide +kernel
theorem dX8_rangeCount_0 : decode cX8_rangeCount 0 = .ok (.aload_n 0, 1) := by decide +kernel
theorem dX8_rangeCount_1 : decode cX8_rangeCount 1 = .ok (.getfield 20, 3) := by decide +kernel
theorem dX8_rangeCount_4 : decode cX8_rangeCount 4 = .ok (.getfield 126, 3) := by decide +kernel
theorem dX8_rangeCount_7 : decode cX8_rangeCount 7 = .ok (.getfield 164, 3) := by decide +kernel
theorem dX8_rangeCount_10 : decode cX8_rangeCount 10 = .ok (.ireturn, 1) := by decide +kernel
theorem dX8_start_0 : decode cX8_start 0 = .ok (.aload_n 0, 1) := by decide +kernel
theorem dX8_start_1 : decode cX8_start 1 = .ok (.getfield 20, 3) := by decide +kernel
theorem dX8_start_4 : decode cX8_start 4 = .ok (.getfield 126, 3) := by decide +kernel
theorem dX8_start_7 : decode cX8_start 7 = .ok (.iload_n 1, 1) := by decide +kernel
theorem dX8_start_8 : decode cX8_start 8 = .ok (.invokevirtual 165, 3) := by decide +kernel
theorem dX8_start_11 : decode cX8_start 11 = .ok (.ifCond .ne 10, 3) := by decide +kernel
theorem dX8_start_14 : decode cX8_start 14 = .ok (.aload_n 0, 1) := by decide +kernel
theorem dX8_start_15 : decode cX8_start 15 = .ok (.bipush (-2), 2) := by decide +kernel
theorem dX8_start_17 : decode cX8_start 17 = .ok (.invokevirtual 32, 3) := by decide +kernel
theorem dX8_start_20 : decode cX8_start 20 = .ok (.ireturn, 1) := by decide +kernel
theorem dX8_start_21 : decode cX8_start 21 = .ok (.aload_n 0, 1) := by decide +kernel
theorem dX8_start_22 : decode cX8_start 22 = .ok (.getfield 20, 3) := by decide +kernel
theorem dX8_start_25 : decode cX8_start 25 = .ok (.getfield 126, 3) := by decide +kernel
theorem dX8_start_28 : decode cX8_start 28 = .ok (.getfield 139, 3) := by decide +kernel
theorem dX8_start_31 : decode cX8_start 31 = .ok (.iload_n 1, 1) := by decide +kernel
theorem dX8_start_32 : decode cX8_start 32 = .ok (.iaload, 1) := by decide +kernel
theorem dX8_start_33 : decode cX8_start 33 = .ok (.ireturn, 1) := by decide +kernel
theorem dX8_size_0 : decode cX8_size 0 = .ok (.aload_n 0, 1) := by decide +kernel
theorem dX8_size_1 : decode cX8_size 1 = .ok (.getfield 20, 3) := by decide +kernel
theorem dX8_size_4 : decode cX8_size 4 = .ok (.getfield 126, 3) := by decide +kernel
theorem dX8_size_7 : decode cX8_size 7 = .ok (.iload_n 1, 1) := by decide +kernel
theorem dX8_size_8 : decode cX8_size 8 = .ok (.invokevirtual 165, 3) := by decide +kernel
theorem dX8_size_11 : decode cX8_size 11 = .ok (.ifCond .ne 10, 3) := by decide +kernel
theorem dX8_size_14 : decode cX8_size 14 = .ok (.aload_n 0, 1) := by decide +kernel
theorem dX8_size_15 : decode cX8_size 15 = .ok (.bipush (-2), 2) := by decide +kernel
theorem dX8_size_17 : decode cX8_size 17 = .ok (.invokevirtual 32, 3) := by decide +kernel
theorem dX8_size_20 : decode cX8_size 20 = .ok (.ireturn, 1) := by decide +kernel
theorem dX8_size_21 : decode cX8_size 21 = .ok (.aload_n 0, 1) := by decide +kernel
theorem dX8_size_22 : decode cX8_size 22 = .ok (.getfield 20, 3) := by decide +kernel
theorem dX8_size_25 : decode cX8_size 25 = .ok (.iload_n 1, 1) := by decide +kernel
theorem dX8_size_26 : decode cX8_size 26 = .ok (.invokevirtual 166, 3) := by decide +kernel
theorem dX8_size_29 : decode cX8_size 29 = .ok (.ireturn, 1) := by decide +kernel
theorem dX8_load_0 : decode cX8_load 0 = .ok (.aload_n 0, 1) := by decide +kernel
theorem dX8_load_1 : decode cX8_load 1 = .ok (.getfield 20, 3) := by decide +kernel
theorem dX8_load_4 : decode cX8_load 4 = .ok (.getfield 126, 3) := by decide +kernel
theorem dX8_load_7 : decode cX8_load 7 = .ok (.iload_n 1, 1) := by decide +kernel
theorem dX8_load_8 : decode cX8_load 8 = .ok (.invokevirtual 165, 3) := by decide +kernel
theorem dX8_load_11 : decode cX8_load 11 = .ok (.ifCond .ne 10, 3) := by decide +kernel
theorem dX8_load_14 : decode cX8_load 14 = .ok (.aload_n 0, 1) := by decide +kernel
theorem dX8_load_15 : decode cX8_load 15 = .ok (.bipush (-2), 2) := by decide +kernel
theorem dX8_load_17 : decode cX8_load 17 = .ok (.invokevirtual 32, 3) := by decide +kernel
theorem dX8_load_20 : decode cX8_load 20 = .ok (.ireturn, 1) := by decide +kernel
theorem dX8_load_21 : decode cX8_load 21 = .ok (.aload_n 0, 1) := by decide +kernel
theorem dX8_load_22 : decode cX8_load 22 = .ok (.getfield 20, 3) := by decide +kernel
theorem dX8_load_25 : decode cX8_load 25 = .ok (.iload_n 1, 1) := by decide +kernel
theorem dX8_load_26 : decode cX8_load 26 = .ok (.invokevirtual 169, 3) := by decide +kernel
theorem dX8_load_29 : decode cX8_load 29 = .ok (.ireturn, 1) := by decide +kernel
theorem dX8_rangeOf_0 : decode cX8_rangeOf 0 = .ok (.iload_n 1, 1) := by decide +kernel
theorem dX8_rangeOf_1 : decode cX8_rangeOf 1 = .ok (.invokestatic 98, 3) := by decide +kernel
theorem dX8_rangeOf_4 : decode cX8_rangeOf 4 = .ok (.ifCond .ne 10, 3) := by decide +kernel
theorem dX8_rangeOf_7 : decode cX8_rangeOf 7 = .ok (.aload_n 0, 1) := by decide +kernel
theorem dX8_rangeOf_8 : decode cX8_rangeOf 8 = .ok (.bipush (-2), 2) := by decide +kernel
theorem dX8_rangeOf_10 : decode cX8_rangeOf 10 = .ok (.invokevirtual 32, 3) := by decide +kernel
theorem dX8_rangeOf_13 : decode cX8_rangeOf 13 = .ok (.ireturn, 1) := by decide +kernel
theorem dX8_rangeOf_14 : decode cX8_rangeOf 14 = .ok (.aload_n 0, 1) := by decide +kernel
theorem dX8_rangeOf_15 : decode cX8_rangeOf 15 = .ok (.getfield 20, 3) := by decide +kernel
theorem dX8_rangeOf_18 : decode cX8_rangeOf 18 = .ok (.getfield 126, 3) := by decide +kernel
theorem dX8_rangeOf_21 : decode cX8_rangeOf 21 = .ok (.iload_n 1, 1) := by decide +kernel
theorem dX8_rangeOf_22 : decode cX8_rangeOf 22 = .ok (.invokevirtual 136, 3) := by decide +kernel
theorem dX8_rangeOf_25 : decode cX8_rangeOf 25 = .ok (.ireturn, 1) := by decide +kernel
theorem dX8_voters_0 : decode cX8_voters 0 = .ok (.aload_n 0, 1) := by decide +kernel
theorem dX8_voters_1 : decode cX8_voters 1 = .ok (.getfield 20, 3) := by decide +kernel
theorem dX8_voters_4 : decode cX8_voters 4 = .ok (.getfield 126, 3) := by decide +kernel
theorem dX8_voters_7 : decode cX8_voters 7 = .ok (.iload_n 1, 1) := by decide +kernel
theorem dX8_voters_8 : decode cX8_voters 8 = .ok (.invokevirtual 165, 3) := by decide +kernel
theorem dX8_voters_11 : decode cX8_voters 11 = .ok (.ifCond .ne 10, 3) := by decide +kernel
theorem dX8_voters_14 : decode cX8_voters 14 = .ok (.aload_n 0, 1) := by decide +kernel
theorem dX8_voters_15 : decode cX8_voters 15 = .ok (.bipush (-2), 2) := by decide +kernel
theorem dX8_voters_17 : decode cX8_voters 17 = .ok (.invokevirtual 32, 3) := by decide +kernel
theorem dX8_voters_20 : decode cX8_voters 20 = .ok (.ireturn, 1) := by decide +kernel
theorem dX8_voters_21 : decode cX8_voters 21 = .ok (.aload_n 0, 1) := by decide +kernel
theorem dX8_voters_22 : decode cX8_voters 22 = .ok (.getfield 20, 3) := by decide +kernel
theorem dX8_voters_25 : decode cX8_voters 25 = .ok (.getfield 126, 3) := by decide +kernel
theorem dX8_voters_28 : decode cX8_voters 28 = .ok (.getfield 172, 3) := by decide +kernel
theorem dX8_voters_31 : decode cX8_voters 31 = .ok (.iload_n 1, 1) := by decide +kernel
theorem dX8_voters_32 : decode cX8_voters 32 = .ok (.iaload, 1) := by decide +kernel
theorem dX8_voters_33 : decode cX8_voters 33 = .ok (.ireturn, 1) := by decide +kernel
theorem dX8_leader_0 : decode cX8_leader 0 = .ok (.aload_n 0, 1) := by decide +kernel
theorem dX8_leader_1 : decode cX8_leader 1 = .ok (.getfield 20, 3) := by decide +kernel
theorem dX8_leader_4 : decode cX8_leader 4 = .ok (.getfield 126, 3) := by decide +kernel
theorem dX8_leader_7 : decode cX8_leader 7 = .ok (.iload_n 1, 1) := by decide +kernel
theorem dX8_leader_8 : decode cX8_leader 8 = .ok (.invokevirtual 165, 3) := by decide +kernel
theorem dX8_leader_11 : decode cX8_leader 11 = .ok (.ifCond .ne 10, 3) := by decide +kernel
theorem dX8_leader_14 : decode cX8_leader 14 = .ok (.aload_n 0, 1) := by decide +kernel
theorem dX8_leader_15 : decode cX8_leader 15 = .ok (.bipush (-2), 2) := by decide +kernel
theorem dX8_leader_17 : decode cX8_leader 17 = .ok (.invokevirtual 32, 3) := by decide +kernel
theorem dX8_leader_20 : decode cX8_leader 20 = .ok (.ireturn, 1) := by decide +kernel
theorem dX8_leader_21 : decode cX8_leader 21 = .ok (.aload_n 0, 1) := by decide +kernel
theorem dX8_leader_22 : decode cX8_leader 22 = .ok (.getfield 20, 3) := by decide +kernel
theorem dX8_leader_25 : decode cX8_leader 25 = .ok (.getfield 126, 3) := by decide +kernel
theorem dX8_leader_28 : decode cX8_leader 28 = .ok (.getfield 130, 3) := by decide +kernel
theorem dX8_leader_31 : decode cX8_leader 31 = .ok (.iload_n 1, 1) := by decide +kernel
theorem dX8_leader_32 : decode cX8_leader 32 = .ok (.iaload, 1) := by decide +kernel
theorem dX8_leader_33 : decode cX8_leader 33 = .ok (.ireturn, 1) := by decide +kernel
theorem dX8_learner_0 : decode cX8_learner 0 = .ok (.aload_n 0, 1) := by decide +kernel
theorem dX8_learner_1 : decode cX8_learner 1 = .ok (.getfield 20, 3) := by decide +kernel
theorem dX8_learner_4 : decode cX8_learner 4 = .ok (.getfield 126, 3) := by decide +kernel
theorem dX8_learner_7 : decode cX8_learner 7 = .ok (.iload_n 1, 1) := by decide +kernel
theorem dX8_learner_8 : decode cX8_learner 8 = .ok (.invokevirtual 165, 3) := by decide +kernel
theorem dX8_learner_11 : decode cX8_learner 11 = .ok (.ifCond .ne 10, 3) := by decide +kernel
theorem dX8_learner_14 : decode cX8_learner 14 = .ok (.aload_n 0, 1) := by decide +kernel
theorem dX8_learner_15 : decode cX8_learner 15 = .ok (.bipush (-2), 2) := by decide +kernel
theorem dX8_learner_17 : decode cX8_learner 17 = .ok (.invokevirtual 32, 3) := by decide +kernel
theorem dX8_learner_20 : decode cX8_learner 20 = .ok (.ireturn, 1) := by decide +kernel
theorem dX8_learner_21 : decode cX8_learner 21 = .ok (.aload_n 0, 1) := by decide +kernel
theorem dX8_learner_22 : decode cX8_learner 22 = .ok (.getfield 20, 3) := by decide +kernel
theorem dX8_learner_25 : decode cX8_learner 25 = .ok (.getfield 126, 3) := by decide +kernel
theorem dX8_learner_28 : decode cX8_learner 28 = .ok (.iload_n 1, 1) := by decide +kernel
theorem dX8_learner_29 : decode cX8_learner 29 = .ok (.invokevirtual 175, 3) := by decide +kernel
theorem dX8_learner_32 : decode cX8_learner 32 = .ok (.ireturn, 1) := by decide +kernel
theorem dX8_isAvailable_0 : decode cX8_isAvailable 0 = .ok (.aload_n 0, 1) := by decide +kernel
theorem dX8_isAvailable_1 : decode cX8_isAvailable 1 = .ok (.getfield 20, 3) := by decide +kernel
theorem dX8_isAvailable_4 : decode cX8_isAvailable 4 = .ok (.getfield 126, 3) := by decide +kernel
theorem dX8_isAvailable_7 : decode cX8_isAvailable 7 = .ok (.iload_n 1, 1) := by decide +kernel
theorem dX8_isAvailable_8 : decode cX8_isAvailable 8 = .ok (.invokevirtual 165, 3) := by decide +kernel
theorem dX8_isAvailable_11 : decode cX8_isAvailable 11 = .ok (.ifCond .ne 10, 3) := by decide +kernel
theorem dX8_isAvailable_14 : decode cX8_isAvailable 14 = .ok (.aload_n 0, 1) := by decide +kernel
theorem dX8_isAvailable_15 : decode cX8_isAvailable 15 = .ok (.bipush (-2), 2) := by decide +kernel
theorem dX8_isAvailable_17 : decode cX8_isAvailable 17 = .ok (.invokevirtual 32, 3) := by decide +kernel
theorem dX8_isAvailable_20 : decode cX8_isAvailable 20 = .ok (.ireturn, 1) := by decide +kernel
theorem dX8_isAvailable_21 : decode cX8_isAvailable 21 = .ok (.aload_n 0, 1) := by decide +kernel
theorem dX8_isAvailable_22 : decode cX8_isAvailable 22 = .ok (.getfield 20, 3) := by decide +kernel
theorem dX8_isAvailable_25 : decode cX8_isAvailable 25 = .ok (.iload_n 1, 1) := by decide +kernel
theorem dX8_isAvailable_26 : decode cX8_isAvailable 26 = .ok (.invokevirtual 178, 3) := by decide +kernel
theorem dX8_isAvailable_29 : decode cX8_isAvailable 29 = .ok (.ifCond .eq 7, 3) := by decide +kernel
theorem dX8_isAvailable_32 : decode cX8_isAvailable 32 = .ok (.iconst 1, 1) := by decide +kernel
theorem dX8_isAvailable_33 : decode cX8_isAvailable 33 = .ok (.goto 4, 3) := by decide +kernel
theorem dX8_isAvailable_36 : decode cX8_isAvailable 36 = .ok (.iconst 0, 1) := by decide +kernel
theorem dX8_isAvailable_37 : decode cX8_isAvailable 37 = .ok (.ireturn, 1) := by decide +kernel
theorem dX8_splitKey_0 : decode cX8_splitKey 0 = .ok (.aload_n 0, 1) := by decide +kernel
theorem dX8_splitKey_1 : decode cX8_splitKey 1 = .ok (.getfield 20, 3) := by decide +kernel
theorem dX8_splitKey_4 : decode cX8_splitKey 4 = .ok (.getfield 126, 3) := by decide +kernel
theorem dX8_splitKey_7 : decode cX8_splitKey 7 = .ok (.iload_n 1, 1) := by decide +kernel
theorem dX8_splitKey_8 : decode cX8_splitKey 8 = .ok (.invokevirtual 165, 3) := by decide +kernel
theorem dX8_splitKey_11 : decode cX8_splitKey 11 = .ok (.ifCond .eq 12, 3) := by decide +kernel
theorem dX8_splitKey_14 : decode cX8_splitKey 14 = .ok (.iload_n 2, 1) := by decide +kernel
theorem dX8_splitKey_15 : decode cX8_splitKey 15 = .ok (.iconst 0, 1) := by decide +kernel
theorem dX8_splitKey_16 : decode cX8_splitKey 16 = .ok (.iconst 1, 1) := by decide +kernel
theorem dX8_splitKey_17 : decode cX8_splitKey 17 = .ok (.invokestatic 28, 3) := by decide +kernel
theorem dX8_splitKey_20 : decode cX8_splitKey 20 = .ok (.ifCond .ne 10, 3) := by decide +kernel
theorem dX8_splitKey_23 : decode cX8_splitKey 23 = .ok (.aload_n 0, 1) := by decide +kernel
theorem dX8_splitKey_24 : decode cX8_splitKey 24 = .ok (.bipush (-2), 2) := by decide +kernel
theorem dX8_splitKey_26 : decode cX8_splitKey 26 = .ok (.invokevirtual 32, 3) := by decide +kernel
theorem dX8_splitKey_29 : decode cX8_splitKey 29 = .ok (.ireturn, 1) := by decide +kernel
theorem dX8_splitKey_30 : decode cX8_splitKey 30 = .ok (.iload_n 2, 1) := by decide +kernel
theorem dX8_splitKey_31 : decode cX8_splitKey 31 = .ok (.ifCond .ne 14, 3) := by decide +kernel
theorem dX8_splitKey_34 : decode cX8_splitKey 34 = .ok (.aload_n 0, 1) := by decide +kernel
theorem dX8_splitKey_35 : decode cX8_splitKey 35 = .ok (.getfield 20, 3) := by decide +kernel
theorem dX8_splitKey_38 : decode cX8_splitKey 38 = .ok (.iload_n 1, 1) := by decide +kernel
theorem dX8_splitKey_39 : decode cX8_splitKey 39 = .ok (.invokevirtual 181, 3) := by decide +kernel
theorem dX8_splitKey_42 : decode cX8_splitKey 42 = .ok (.goto 11, 3) := by decide +kernel
theorem dX8_splitKey_45 : decode cX8_splitKey 45 = .ok (.aload_n 0, 1) := by decide +kernel
theorem dX8_splitKey_46 : decode cX8_splitKey 46 = .ok (.getfield 20, 3) := by decide +kernel
theorem dX8_splitKey_49 : decode cX8_splitKey 49 = .ok (.iload_n 1, 1) := by decide +kernel
theorem dX8_splitKey_50 : decode cX8_splitKey 50 = .ok (.invokevirtual 184, 3) := by decide +kernel
theorem dX8_splitKey_53 : decode cX8_splitKey 53 = .ok (.ireturn, 1) := by decide +kernel
theorem dX8_replicas_0 : decode cX8_replicas 0 = .ok (.aload_n 0, 1) := by decide +kernel
theorem dX8_replicas_1 : decode cX8_replicas 1 = .ok (.getfield 20, 3) := by decide +kernel
theorem dX8_replicas_4 : decode cX8_replicas 4 = .ok (.getfield 36, 3) := by decide +kernel
theorem dX8_replicas_7 : decode cX8_replicas 7 = .ok (.iload_n 1, 1) := by decide +kernel
theorem dX8_replicas_8 : decode cX8_replicas 8 = .ok (.invokevirtual 56, 3) := by decide +kernel
theorem dX8_replicas_11 : decode cX8_replicas 11 = .ok (.ifCond .ne 10, 3) := by decide +kernel
theorem dX8_replicas_14 : decode cX8_replicas 14 = .ok (.aload_n 0, 1) := by decide +kernel
theorem dX8_replicas_15 : decode cX8_replicas 15 = .ok (.bipush (-2), 2) := by decide +kernel
theorem dX8_replicas_17 : decode cX8_replicas 17 = .ok (.invokevirtual 32, 3) := by decide +kernel
theorem dX8_replicas_20 : decode cX8_replicas 20 = .ok (.ireturn, 1) := by decide +kernel
theorem dX8_replicas_21 : decode cX8_replicas 21 = .ok (.aload_n 0, 1) := by decide +kernel
theorem dX8_replicas_22 : decode cX8_replicas 22 = .ok (.getfield 20, 3) := by decide +kernel
theorem dX8_replicas_25 : decode cX8_replicas 25 = .ok (.getfield 126, 3) := by decide +kernel
theorem dX8_replicas_28 : decode cX8_replicas 28 = .ok (.iload_n 1, 1) := by decide +kernel
theorem dX8_replicas_29 : decode cX8_replicas 29 = .ok (.invokevirtual 187, 3) := by decide +kernel
theorem dX8_replicas_32 : decode cX8_replicas 32 = .ok (.ireturn, 1) := by decide +kernel
theorem dX8_leaders_0 : decode cX8_leaders 0 = .ok (.aload_n 0, 1) := by decide +kernel
theorem dX8_leaders_1 : decode cX8_leaders 1 = .ok (.getfield 20, 3) := by decide +kernel
theorem dX8_leaders_4 : decode cX8_leaders 4 = .ok (.getfield 36, 3) := by decide +kernel
theorem dX8_leaders_7 : decode cX8_leaders 7 = .ok (.iload_n 1, 1) := by decide +kernel
theorem dX8_leaders_8 : decode cX8_leaders 8 = .ok (.invokevirtual 56, 3) := by decide +kernel
theorem dX8_leaders_11 : decode cX8_leaders 11 = .ok (.ifCond .ne 10, 3) := by decide +kernel
theorem dX8_leaders_14 : decode cX8_leaders 14 = .ok (.aload_n 0, 1) := by decide +kernel
theorem dX8_leaders_15 : decode cX8_leaders 15 = .ok (.bipush (-2), 2) := by decide +kernel
theorem dX8_leaders_17 : decode cX8_leaders 17 = .ok (.invokevirtual 32, 3) := by decide +kernel
theorem dX8_leaders_20 : decode cX8_leaders 20 = .ok (.ireturn, 1) := by decide +kernel
theorem dX8_leaders_21 : decode cX8_leaders 21 = .ok (.aload_n 0, 1) := by decide +kernel
theorem dX8_leaders_22 : decode cX8_leaders 22 = .ok (.getfield 20, 3) := by decide +kernel
theorem dX8_leaders_25 : decode cX8_leaders 25 = .ok (.getfield 126, 3) := by decide +kernel
theorem dX8_leaders_28 : decode cX8_leaders 28 = .ok (.iload_n 1, 1) := by decide +kernel
theorem dX8_leaders_29 : decode cX8_leaders 29 = .ok (.invokevirtual 190, 3) := by decide +kernel
theorem dX8_leaders_32 : decode cX8_leaders 32 = .ok (.ireturn, 1) := by decide +kernel
theorem dX8_undo_0 : decode cX8_undo 0 = .ok (.aload_n 0, 1) := by decide +kernel
theorem dX8_undo_1 : decode cX8_undo 1 = .ok (.getfield 24, 3) := by decide +kernel
theorem dX8_undo_4 : decode cX8_undo 4 = .ok (.getfield 193, 3) := by decide +kernel
theorem dX8_undo_7 : decode cX8_undo 7 = .ok (.ifCond .ne 10, 3) := by decide +kernel
theorem dX8_undo_10 : decode cX8_undo 10 = .ok (.aload_n 0, 1) := by decide +kernel
theorem dX8_undo_11 : decode cX8_undo 11 = .ok (.bipush (-3), 2) := by decide +kernel
theorem dX8_undo_13 : decode cX8_undo 13 = .ok (.invokevirtual 32, 3) := by decide +kernel
theorem dX8_undo_16 : decode cX8_undo 16 = .ok (.ireturn, 1) := by decide +kernel
theorem dX8_undo_17 : decode cX8_undo 17 = .ok (.aload_n 0, 1) := by decide +kernel
theorem dX8_undo_18 : decode cX8_undo 18 = .ok (.getfield 24, 3) := by decide +kernel
theorem dX8_undo_21 : decode cX8_undo 21 = .ok (.aload_n 0, 1) := by decide +kernel
theorem dX8_undo_22 : decode cX8_undo 22 = .ok (.getfield 20, 3) := by decide +kernel
theorem dX8_undo_25 : decode cX8_undo 25 = .ok (.invokevirtual 194, 3) := by decide +kernel
theorem dX8_undo_28 : decode cX8_undo 28 = .ok (.aload_n 0, 1) := by decide +kernel
theorem dX8_undo_29 : decode cX8_undo 29 = .ok (.getfield 24, 3) := by decide +kernel
theorem dX8_undo_32 : decode cX8_undo 32 = .ok (.getfield 193, 3) := by decide +kernel
theorem dX8_undo_35 : decode cX8_undo 35 = .ok (.ireturn, 1) := by decide +kernel
theorem dX8_errorCount_0 : decode cX8_errorCount 0 = .ok (.iload_n 1, 1) := by decide +kernel
theorem dX8_errorCount_1 : decode cX8_errorCount 1 = .ok (.tableswitch 42 0 2 #[27, 32, 37], 27) := by decide +kernel
theorem dX8_errorCount_28 : decode cX8_errorCount 28 = .ok (.aload_n 0, 1) := by decide +kernel
theorem dX8_errorCount_29 : decode cX8_errorCount 29 = .ok (.getfield 197, 3) := by decide +kernel
theorem dX8_errorCount_32 : decode cX8_errorCount 32 = .ok (.ireturn, 1) := by decide +kernel
theorem dX8_errorCount_33 : decode cX8_errorCount 33 = .ok (.aload_n 0, 1) := by decide +kernel
theorem dX8_errorCount_34 : decode cX8_errorCount 34 = .ok (.getfield 200, 3) := by decide +kernel
theorem dX8_errorCount_37 : decode cX8_errorCount 37 = .ok (.ireturn, 1) := by decide +kernel
theorem dX8_errorCount_38 : decode cX8_errorCount 38 = .ok (.aload_n 0, 1) := by decide +kernel
theorem dX8_errorCount_39 : decode cX8_errorCount 39 = .ok (.getfield 203, 3) := by decide +kernel
theorem dX8_errorCount_42 : decode cX8_errorCount 42 = .ok (.ireturn, 1) := by decide +kernel
theorem dX8_errorCount_43 : decode cX8_errorCount 43 = .ok (.aload_n 0, 1) := by decide +kernel
theorem dX8_errorCount_44 : decode cX8_errorCount 44 = .ok (.bipush (-2), 2) := by decide +kernel
theorem dX8_errorCount_46 : decode cX8_errorCount 46 = .ok (.invokevirtual 32, 3) := by decide +kernel
theorem dX8_errorCount_49 : decode cX8_errorCount 49 = .ok (.ireturn, 1) := by decide +kernel
theorem dX8_digest_0 : decode cX8_digest 0 = .ok (.ldc2_w 206, 3) := by decide +kernel
theorem dX8_digest_3 : decode cX8_digest 3 = .ok (.lstore_n 1, 1) := by decide +kernel
theorem dX8_digest_4 : decode cX8_digest 4 = .ok (.lload_n 1, 1) := by decide +kernel
theorem dX8_digest_5 : decode cX8_digest 5 = .ok (.aload_n 0, 1) := by decide +kernel
theorem dX8_digest_6 : decode cX8_digest 6 = .ok (.getfield 197, 3) := by decide +kernel
theorem dX8_digest_9 : decode cX8_digest 9 = .ok (.invokestatic 208, 3) := by decide +kernel
theorem dX8_digest_12 : decode cX8_digest 12 = .ok (.lstore_n 1, 1) := by decide +kernel
theorem dX8_digest_13 : decode cX8_digest 13 = .ok (.lload_n 1, 1) := by decide +kernel
theorem dX8_digest_14 : decode cX8_digest 14 = .ok (.aload_n 0, 1) := by decide +kernel
theorem dX8_digest_15 : decode cX8_digest 15 = .ok (.getfield 200, 3) := by decide +kernel
theorem dX8_digest_18 : decode cX8_digest 18 = .ok (.invokestatic 208, 3) := by decide +kernel
theorem dX8_digest_21 : decode cX8_digest 21 = .ok (.lstore_n 1, 1) := by decide +kernel
theorem dX8_digest_22 : decode cX8_digest 22 = .ok (.lload_n 1, 1) := by decide +kernel
theorem dX8_digest_23 : decode cX8_digest 23 = .ok (.aload_n 0, 1) := by decide +kernel
theorem dX8_digest_24 : decode cX8_digest 24 = .ok (.getfield 203, 3) := by decide +kernel
theorem dX8_digest_27 : decode cX8_digest 27 = .ok (.invokestatic 208, 3) := by decide +kernel
theorem dX8_digest_30 : decode cX8_digest 30 = .ok (.lstore_n 1, 1) := by decide +kernel
theorem dX8_digest_31 : decode cX8_digest 31 = .ok (.lload_n 1, 1) := by decide +kernel
theorem dX8_digest_32 : decode cX8_digest 32 = .ok (.aload_n 0, 1) := by decide +kernel
theorem dX8_digest_33 : decode cX8_digest 33 = .ok (.getfield 24, 3) := by decide +kernel
theorem dX8_digest_36 : decode cX8_digest 36 = .ok (.getfield 193, 3) := by decide +kernel
theorem dX8_digest_39 : decode cX8_digest 39 = .ok (.invokestatic 208, 3) := by decide +kernel
theorem dX8_digest_42 : decode cX8_digest 42 = .ok (.lstore_n 1, 1) := by decide +kernel
theorem dX8_digest_43 : decode cX8_digest 43 = .ok (.lload_n 1, 1) := by decide +kernel
theorem dX8_digest_44 : decode cX8_digest 44 = .ok (.aload_n 0, 1) := by decide +kernel
theorem dX8_digest_45 : decode cX8_digest 45 = .ok (.getfield 20, 3) := by decide +kernel
theorem dX8_digest_48 : decode cX8_digest 48 = .ok (.getfield 161, 3) := by decide +kernel
theorem dX8_digest_51 : decode cX8_digest 51 = .ok (.invokestatic 208, 3) := by decide +kernel
theorem dX8_digest_54 : decode cX8_digest 54 = .ok (.lstore_n 1, 1) := by decide +kernel
theorem dX8_digest_55 : decode cX8_digest 55 = .ok (.aload_n 0, 1) := by decide +kernel
theorem dX8_digest_56 : decode cX8_digest 56 = .ok (.lload_n 1, 1) := by decide +kernel
theorem dX8_digest_57 : decode cX8_digest 57 = .ok (.invokevirtual 212, 3) := by decide +kernel
theorem dX8_digest_60 : decode cX8_digest 60 = .ok (.lstore_n 1, 1) := by decide +kernel
theorem dX8_digest_61 : decode cX8_digest 61 = .ok (.aload_n 0, 1) := by decide +kernel
theorem dX8_digest_62 : decode cX8_digest 62 = .ok (.lload_n 1, 1) := by decide +kernel
theorem dX8_digest_63 : decode cX8_digest 63 = .ok (.invokevirtual 216, 3) := by decide +kernel
theorem dX8_digest_66 : decode cX8_digest 66 = .ok (.lstore_n 1, 1) := by decide +kernel
theorem dX8_digest_67 : decode cX8_digest 67 = .ok (.aload_n 0, 1) := by decide +kernel
theorem dX8_digest_68 : decode cX8_digest 68 = .ok (.lload_n 1, 1) := by decide +kernel
theorem dX8_digest_69 : decode cX8_digest 69 = .ok (.invokevirtual 219, 3) := by decide +kernel
theorem dX8_digest_72 : decode cX8_digest 72 = .ok (.lstore_n 1, 1) := by decide +kernel
theorem dX8_digest_73 : decode cX8_digest 73 = .ok (.lload_n 1, 1) := by decide +kernel
theorem dX8_digest_74 : decode cX8_digest 74 = .ok (.aload_n 0, 1) := by decide +kernel
theorem dX8_digest_75 : decode cX8_digest 75 = .ok (.getfield 20, 3) := by decide +kernel
theorem dX8_digest_78 : decode cX8_digest 78 = .ok (.getfield 118, 3) := by decide +kernel
theorem dX8_digest_81 : decode cX8_digest 81 = .ok (.getfield 222, 3) := by decide +kernel
theorem dX8_digest_84 : decode cX8_digest 84 = .ok (.aload_n 0, 1) := by decide +kernel
theorem dX8_digest_85 : decode cX8_digest 85 = .ok (.getfield 20, 3) := by decide +kernel
theorem dX8_digest_88 : decode cX8_digest 88 = .ok (.getfield 118, 3) := by decide +kernel
theorem dX8_digest_91 : decode cX8_digest 91 = .ok (.getfield 223, 3) := by decide +kernel
theorem dX8_digest_94 : decode cX8_digest 94 = .ok (.invokestatic 226, 3) := by decide +kernel
theorem dX8_digest_97 : decode cX8_digest 97 = .ok (.lstore_n 1, 1) := by decide +kernel
theorem dX8_digest_98 : decode cX8_digest 98 = .ok (.iconst 1, 1) := by decide +kernel
theorem dX8_digest_99 : decode cX8_digest 99 = .ok (.istore_n 3, 1) := by decide +kernel
theorem dX8_digest_100 : decode cX8_digest 100 = .ok (.iload_n 3, 1) := by decide +kernel
theorem dX8_digest_101 : decode cX8_digest 101 = .ok (.bipush 8, 2) := by decide +kernel
theorem dX8_digest_103 : decode cX8_digest 103 = .ok (.if_icmp .gt 23, 3) := by decide +kernel
theorem dX8_digest_106 : decode cX8_digest 106 = .ok (.lload_n 1, 1) := by decide +kernel
theorem dX8_digest_107 : decode cX8_digest 107 = .ok (.aload_n 0, 1) := by decide +kernel
theorem dX8_digest_108 : decode cX8_digest 108 = .ok (.getfield 20, 3) := by decide +kernel
theorem dX8_digest_111 : decode cX8_digest 111 = .ok (.getfield 158, 3) := by decide +kernel
theorem dX8_digest_114 : decode cX8_digest 114 = .ok (.iload_n 3, 1) := by decide +kernel
theorem dX8_digest_115 : decode cX8_digest 115 = .ok (.iaload, 1) := by decide +kernel
theorem dX8_digest_116 : decode cX8_digest 116 = .ok (.invokestatic 208, 3) := by decide +kernel
theorem dX8_digest_119 : decode cX8_digest 119 = .ok (.lstore_n 1, 1) := by decide +kernel
theorem dX8_digest_120 : decode cX8_digest 120 = .ok (.iinc 3 1, 3) := by decide +kernel
theorem dX8_digest_123 : decode cX8_digest 123 = .ok (.goto (-23), 3) := by decide +kernel
theorem dX8_digest_126 : decode cX8_digest 126 = .ok (.lload_n 1, 1) := by decide +kernel
theorem dX8_digest_127 : decode cX8_digest 127 = .ok (.lreturn, 1) := by decide +kernel
theorem dX8_mixSettings_0 : decode cX8_mixSettings 0 = .ok (.aload_n 0, 1) := by decide +kernel
theorem dX8_mixSettings_1 : decode cX8_mixSettings 1 = .ok (.getfield 20, 3) := by decide +kernel
theorem dX8_mixSettings_4 : decode cX8_mixSettings 4 = .ok (.getfield 74, 3) := by decide +kernel
theorem dX8_mixSettings_7 : decode cX8_mixSettings 7 = .ok (.astore_n 3, 1) := by decide +kernel
theorem dX8_mixSettings_8 : decode cX8_mixSettings 8 = .ok (.lload_n 1, 1) := by decide +kernel
theorem dX8_mixSettings_9 : decode cX8_mixSettings 9 = .ok (.aload_n 3, 1) := by decide +kernel
theorem dX8_mixSettings_10 : decode cX8_mixSettings 10 = .ok (.getfield 78, 3) := by decide +kernel
theorem dX8_mixSettings_13 : decode cX8_mixSettings 13 = .ok (.invokestatic 208, 3) := by decide +kernel
theorem dX8_mixSettings_16 : decode cX8_mixSettings 16 = .ok (.lstore 4, 2) := by decide +kernel
theorem dX8_mixSettings_18 : decode cX8_mixSettings 18 = .ok (.lload 4, 2) := by decide +kernel
theorem dX8_mixSettings_20 : decode cX8_mixSettings 20 = .ok (.aload_n 3, 1) := by decide +kernel
theorem dX8_mixSettings_21 : decode cX8_mixSettings 21 = .ok (.getfield 86, 3) := by decide +kernel
theorem dX8_mixSettings_24 : decode cX8_mixSettings 24 = .ok (.invokestatic 208, 3) := by decide +kernel
theorem dX8_mixSettings_27 : decode cX8_mixSettings 27 = .ok (.lstore 4, 2) := by decide +kernel
theorem dX8_mixSettings_29 : decode cX8_mixSettings 29 = .ok (.lload 4, 2) := by decide +kernel
theorem dX8_mixSettings_31 : decode cX8_mixSettings 31 = .ok (.aload_n 3, 1) := by decide +kernel
theorem dX8_mixSettings_32 : decode cX8_mixSettings 32 = .ok (.getfield 83, 3) := by decide +kernel
theorem dX8_mixSettings_35 : decode cX8_mixSettings 35 = .ok (.invokestatic 208, 3) := by decide +kernel
theorem dX8_mixSettings_38 : decode cX8_mixSettings 38 = .ok (.lstore 4, 2) := by decide +kernel
theorem dX8_mixSettings_40 : decode cX8_mixSettings 40 = .ok (.lload 4, 2) := by decide +kernel
theorem dX8_mixSettings_42 : decode cX8_mixSettings 42 = .ok (.aload_n 3, 1) := by decide +kernel
theorem dX8_mixSettings_43 : decode cX8_mixSettings 43 = .ok (.getfield 92, 3) := by decide +kernel
theorem dX8_mixSettings_46 : decode cX8_mixSettings 46 = .ok (.invokestatic 208, 3) := by decide +kernel
theorem dX8_mixSettings_49 : decode cX8_mixSettings 49 = .ok (.lstore 4, 2) := by decide +kernel
theorem dX8_mixSettings_51 : decode cX8_mixSettings 51 = .ok (.lload 4, 2) := by decide +kernel
theorem dX8_mixSettings_53 : decode cX8_mixSettings 53 = .ok (.aload_n 3, 1) := by decide +kernel
theorem dX8_mixSettings_54 : decode cX8_mixSettings 54 = .ok (.getfield 89, 3) := by decide +kernel
theorem dX8_mixSettings_57 : decode cX8_mixSettings 57 = .ok (.invokestatic 208, 3) := by decide +kernel
theorem dX8_mixSettings_60 : decode cX8_mixSettings 60 = .ok (.lstore 4, 2) := by decide +kernel
theorem dX8_mixSettings_62 : decode cX8_mixSettings 62 = .ok (.lload 4, 2) := by decide +kernel
theorem dX8_mixSettings_64 : decode cX8_mixSettings 64 = .ok (.aload_n 3, 1) := by decide +kernel
theorem dX8_mixSettings_65 : decode cX8_mixSettings 65 = .ok (.getfield 95, 3) := by decide +kernel
theorem dX8_mixSettings_68 : decode cX8_mixSettings 68 = .ok (.invokestatic 208, 3) := by decide +kernel
theorem dX8_mixSettings_71 : decode cX8_mixSettings 71 = .ok (.lreturn, 1) := by decide +kernel
theorem dX8_mixNodes_0 : decode cX8_mixNodes 0 = .ok (.aload_n 0, 1) := by decide +kernel
theorem dX8_mixNodes_1 : decode cX8_mixNodes 1 = .ok (.getfield 20, 3) := by decide +kernel
theorem dX8_mixNodes_4 : decode cX8_mixNodes 4 = .ok (.getfield 36, 3) := by decide +kernel
theorem dX8_mixNodes_7 : decode cX8_mixNodes 7 = .ok (.astore_n 3, 1) := by decide +kernel
theorem dX8_mixNodes_8 : decode cX8_mixNodes 8 = .ok (.lload_n 1, 1) := by decide +kernel
theorem dX8_mixNodes_9 : decode cX8_mixNodes 9 = .ok (.aload_n 3, 1) := by decide +kernel
theorem dX8_mixNodes_10 : decode cX8_mixNodes 10 = .ok (.getfield 42, 3) := by decide +kernel
theorem dX8_mixNodes_13 : decode cX8_mixNodes 13 = .ok (.invokestatic 208, 3) := by decide +kernel
theorem dX8_mixNodes_16 : decode cX8_mixNodes 16 = .ok (.lstore 4, 2) := by decide +kernel
theorem dX8_mixNodes_18 : decode cX8_mixNodes 18 = .ok (.iconst 0, 1) := by decide +kernel
theorem dX8_mixNodes_19 : decode cX8_mixNodes 19 = .ok (.istore 6, 2) := by decide +kernel
theorem dX8_mixNodes_21 : decode cX8_mixNodes 21 = .ok (.iload 6, 2) := by decide +kernel
theorem dX8_mixNodes_23 : decode cX8_mixNodes 23 = .ok (.aload_n 3, 1) := by decide +kernel
theorem dX8_mixNodes_24 : decode cX8_mixNodes 24 = .ok (.getfield 42, 3) := by decide +kernel
theorem dX8_mixNodes_27 : decode cX8_mixNodes 27 = .ok (.if_icmp .ge 96, 3) := by decide +kernel
theorem dX8_mixNodes_30 : decode cX8_mixNodes 30 = .ok (.lload 4, 2) := by decide +kernel
theorem dX8_mixNodes_32 : decode cX8_mixNodes 32 = .ok (.aload_n 3, 1) := by decide +kernel
theorem dX8_mixNodes_33 : decode cX8_mixNodes 33 = .ok (.getfield 230, 3) := by decide +kernel
theorem dX8_mixNodes_36 : decode cX8_mixNodes 36 = .ok (.iload 6, 2) := by decide +kernel
theorem dX8_mixNodes_38 : decode cX8_mixNodes 38 = .ok (.iaload, 1) := by decide +kernel
theorem dX8_mixNodes_39 : decode cX8_mixNodes 39 = .ok (.invokestatic 208, 3) := by decide +kernel
theorem dX8_mixNodes_42 : decode cX8_mixNodes 42 = .ok (.lstore 4, 2) := by decide +kernel
theorem dX8_mixNodes_44 : decode cX8_mixNodes 44 = .ok (.lload 4, 2) := by decide +kernel
theorem dX8_mixNodes_46 : decode cX8_mixNodes 46 = .ok (.aload_n 3, 1) := by decide +kernel
theorem dX8_mixNodes_47 : decode cX8_mixNodes 47 = .ok (.getfield 233, 3) := by decide +kernel
theorem dX8_mixNodes_50 : decode cX8_mixNodes 50 = .ok (.iload 6, 2) := by decide +kernel
theorem dX8_mixNodes_52 : decode cX8_mixNodes 52 = .ok (.iaload, 1) := by decide +kernel
theorem dX8_mixNodes_53 : decode cX8_mixNodes 53 = .ok (.invokestatic 208, 3) := by decide +kernel
theorem dX8_mixNodes_56 : decode cX8_mixNodes 56 = .ok (.lstore 4, 2) := by decide +kernel
theorem dX8_mixNodes_58 : decode cX8_mixNodes 58 = .ok (.lload 4, 2) := by decide +kernel
theorem dX8_mixNodes_60 : decode cX8_mixNodes 60 = .ok (.aload_n 3, 1) := by decide +kernel
theorem dX8_mixNodes_61 : decode cX8_mixNodes 61 = .ok (.iload 6, 2) := by decide +kernel
theorem dX8_mixNodes_63 : decode cX8_mixNodes 63 = .ok (.invokevirtual 60, 3) := by decide +kernel
theorem dX8_mixNodes_66 : decode cX8_mixNodes 66 = .ok (.ifCond .eq 7, 3) := by decide +kernel
theorem dX8_mixNodes_69 : decode cX8_mixNodes 69 = .ok (.iconst 1, 1) := by decide +kernel
theorem dX8_mixNodes_70 : decode cX8_mixNodes 70 = .ok (.goto 4, 3) := by decide +kernel
theorem dX8_mixNodes_73 : decode cX8_mixNodes 73 = .ok (.iconst 0, 1) := by decide +kernel
theorem dX8_mixNodes_74 : decode cX8_mixNodes 74 = .ok (.invokestatic 208, 3) := by decide +kernel
theorem dX8_mixNodes_77 : decode cX8_mixNodes 77 = .ok (.lstore 4, 2) := by decide +kernel
theorem dX8_mixNodes_79 : decode cX8_mixNodes 79 = .ok (.lload 4, 2) := by decide +kernel
theorem dX8_mixNodes_81 : decode cX8_mixNodes 81 = .ok (.aload_n 0, 1) := by decide +kernel
theorem dX8_mixNodes_82 : decode cX8_mixNodes 82 = .ok (.getfield 20, 3) := by decide +kernel
theorem dX8_mixNodes_85 : decode cX8_mixNodes 85 = .ok (.getfield 126, 3) := by decide +kernel
theorem dX8_mixNodes_88 : decode cX8_mixNodes 88 = .ok (.iload 6, 2) := by decide +kernel
theorem dX8_mixNodes_90 : decode cX8_mixNodes 90 = .ok (.invokevirtual 187, 3) := by decide +kernel
theorem dX8_mixNodes_93 : decode cX8_mixNodes 93 = .ok (.invokestatic 208, 3) := by decide +kernel
theorem dX8_mixNodes_96 : decode cX8_mixNodes 96 = .ok (.lstore 4, 2) := by decide +kernel
theorem dX8_mixNodes_98 : decode cX8_mixNodes 98 = .ok (.lload 4, 2) := by decide +kernel
theorem dX8_mixNodes_100 : decode cX8_mixNodes 100 = .ok (.aload_n 0, 1) := by decide +kernel
theorem dX8_mixNodes_101 : decode cX8_mixNodes 101 = .ok (.getfield 20, 3) := by decide +kernel
theorem dX8_mixNodes_104 : decode cX8_mixNodes 104 = .ok (.getfield 126, 3) := by decide +kernel
theorem dX8_mixNodes_107 : decode cX8_mixNodes 107 = .ok (.iload 6, 2) := by decide +kernel
theorem dX8_mixNodes_109 : decode cX8_mixNodes 109 = .ok (.invokevirtual 190, 3) := by decide +kernel
theorem dX8_mixNodes_112 : decode cX8_mixNodes 112 = .ok (.invokestatic 208, 3) := by decide +kernel
theorem dX8_mixNodes_115 : decode cX8_mixNodes 115 = .ok (.lstore 4, 2) := by decide +kernel
theorem dX8_mixNodes_117 : decode cX8_mixNodes 117 = .ok (.iinc 6 1, 3) := by decide +kernel
theorem dX8_mixNodes_120 : decode cX8_mixNodes 120 = .ok (.goto (-99), 3) := by decide +kernel
theorem dX8_mixNodes_123 : decode cX8_mixNodes 123 = .ok (.lload 4, 2) := by decide +kernel
theorem dX8_mixNodes_125 : decode cX8_mixNodes 125 = .ok (.lreturn, 1) := by decide +kernel
theorem dX8_mixRanges_0 : decode cX8_mixRanges 0 = .ok (.aload_n 0, 1) := by decide +kernel
theorem dX8_mixRanges_1 : decode cX8_mixRanges 1 = .ok (.getfield 20, 3) := by decide +kernel
theorem dX8_mixRanges_4 : decode cX8_mixRanges 4 = .ok (.getfield 126, 3) := by decide +kernel
theorem dX8_mixRanges_7 : decode cX8_mixRanges 7 = .ok (.astore_n 3, 1) := by decide +kernel
theorem dX8_mixRanges_8 : decode cX8_mixRanges 8 = .ok (.lload_n 1, 1) := by decide +kernel
theorem dX8_mixRanges_9 : decode cX8_mixRanges 9 = .ok (.aload_n 3, 1) := by decide +kernel
theorem dX8_mixRanges_10 : decode cX8_mixRanges 10 = .ok (.getfield 164, 3) := by decide +kernel
theorem dX8_mixRanges_13 : decode cX8_mixRanges 13 = .ok (.invokestatic 208, 3) := by decide +kernel
theorem dX8_mixRanges_16 : decode cX8_mixRanges 16 = .ok (.lstore 4, 2) := by decide +kernel
theorem dX8_mixRanges_18 : decode cX8_mixRanges 18 = .ok (.iconst 0, 1) := by decide +kernel
theorem dX8_mixRanges_19 : decode cX8_mixRanges 19 = .ok (.istore 6, 2) := by decide +kernel
theorem dX8_mixRanges_21 : decode cX8_mixRanges 21 = .ok (.iload 6, 2) := by decide +kernel
theorem dX8_mixRanges_23 : decode cX8_mixRanges 23 = .ok (.aload_n 3, 1) := by decide +kernel
theorem dX8_mixRanges_24 : decode cX8_mixRanges 24 = .ok (.getfield 164, 3) := by decide +kernel
theorem dX8_mixRanges_27 : decode cX8_mixRanges 27 = .ok (.if_icmp .ge 142, 3) := by decide +kernel
theorem dX8_mixRanges_30 : decode cX8_mixRanges 30 = .ok (.lload 4, 2) := by decide +kernel
theorem dX8_mixRanges_32 : decode cX8_mixRanges 32 = .ok (.aload_n 3, 1) := by decide +kernel
theorem dX8_mixRanges_33 : decode cX8_mixRanges 33 = .ok (.getfield 139, 3) := by decide +kernel
theorem dX8_mixRanges_36 : decode cX8_mixRanges 36 = .ok (.iload 6, 2) := by decide +kernel
theorem dX8_mixRanges_38 : decode cX8_mixRanges 38 = .ok (.iaload, 1) := by decide +kernel
theorem dX8_mixRanges_39 : decode cX8_mixRanges 39 = .ok (.invokestatic 208, 3) := by decide +kernel
theorem dX8_mixRanges_42 : decode cX8_mixRanges 42 = .ok (.lstore 4, 2) := by decide +kernel
theorem dX8_mixRanges_44 : decode cX8_mixRanges 44 = .ok (.lload 4, 2) := by decide +kernel
theorem dX8_mixRanges_46 : decode cX8_mixRanges 46 = .ok (.aload_n 0, 1) := by decide +kernel
theorem dX8_mixRanges_47 : decode cX8_mixRanges 47 = .ok (.getfield 20, 3) := by decide +kernel
theorem dX8_mixRanges_50 : decode cX8_mixRanges 50 = .ok (.iload 6, 2) := by decide +kernel
theorem dX8_mixRanges_52 : decode cX8_mixRanges 52 = .ok (.invokevirtual 166, 3) := by decide +kernel
theorem dX8_mixRanges_55 : decode cX8_mixRanges 55 = .ok (.invokestatic 208, 3) := by decide +kernel
theorem dX8_mixRanges_58 : decode cX8_mixRanges 58 = .ok (.lstore 4, 2) := by decide +kernel
theorem dX8_mixRanges_60 : decode cX8_mixRanges 60 = .ok (.lload 4, 2) := by decide +kernel
theorem dX8_mixRanges_62 : decode cX8_mixRanges 62 = .ok (.aload_n 0, 1) := by decide +kernel
theorem dX8_mixRanges_63 : decode cX8_mixRanges 63 = .ok (.getfield 20, 3) := by decide +kernel
theorem dX8_mixRanges_66 : decode cX8_mixRanges 66 = .ok (.iload 6, 2) := by decide +kernel
theorem dX8_mixRanges_68 : decode cX8_mixRanges 68 = .ok (.invokevirtual 169, 3) := by decide +kernel
theorem dX8_mixRanges_71 : decode cX8_mixRanges 71 = .ok (.invokestatic 208, 3) := by decide +kernel
theorem dX8_mixRanges_74 : decode cX8_mixRanges 74 = .ok (.lstore 4, 2) := by decide +kernel
theorem dX8_mixRanges_76 : decode cX8_mixRanges 76 = .ok (.lload 4, 2) := by decide +kernel
theorem dX8_mixRanges_78 : decode cX8_mixRanges 78 = .ok (.aload_n 3, 1) := by decide +kernel
theorem dX8_mixRanges_79 : decode cX8_mixRanges 79 = .ok (.getfield 172, 3) := by decide +kernel
theorem dX8_mixRanges_82 : decode cX8_mixRanges 82 = .ok (.iload 6, 2) := by decide +kernel
theorem dX8_mixRanges_84 : decode cX8_mixRanges 84 = .ok (.iaload, 1) := by decide +kernel
theorem dX8_mixRanges_85 : decode cX8_mixRanges 85 = .ok (.invokestatic 208, 3) := by decide +kernel
theorem dX8_mixRanges_88 : decode cX8_mixRanges 88 = .ok (.lstore 4, 2) := by decide +kernel
theorem dX8_mixRanges_90 : decode cX8_mixRanges 90 = .ok (.lload 4, 2) := by decide +kernel
theorem dX8_mixRanges_92 : decode cX8_mixRanges 92 = .ok (.aload_n 3, 1) := by decide +kernel
theorem dX8_mixRanges_93 : decode cX8_mixRanges 93 = .ok (.getfield 130, 3) := by decide +kernel
theorem dX8_mixRanges_96 : decode cX8_mixRanges 96 = .ok (.iload 6, 2) := by decide +kernel
theorem dX8_mixRanges_98 : decode cX8_mixRanges 98 = .ok (.iaload, 1) := by decide +kernel
theorem dX8_mixRanges_99 : decode cX8_mixRanges 99 = .ok (.invokestatic 208, 3) := by decide +kernel
theorem dX8_mixRanges_102 : decode cX8_mixRanges 102 = .ok (.lstore 4, 2) := by decide +kernel
theorem dX8_mixRanges_104 : decode cX8_mixRanges 104 = .ok (.lload 4, 2) := by decide +kernel
theorem dX8_mixRanges_106 : decode cX8_mixRanges 106 = .ok (.aload_n 3, 1) := by decide +kernel
theorem dX8_mixRanges_107 : decode cX8_mixRanges 107 = .ok (.iload 6, 2) := by decide +kernel
theorem dX8_mixRanges_109 : decode cX8_mixRanges 109 = .ok (.invokevirtual 175, 3) := by decide +kernel
theorem dX8_mixRanges_112 : decode cX8_mixRanges 112 = .ok (.invokestatic 208, 3) := by decide +kernel
theorem dX8_mixRanges_115 : decode cX8_mixRanges 115 = .ok (.lstore 4, 2) := by decide +kernel
theorem dX8_mixRanges_117 : decode cX8_mixRanges 117 = .ok (.lload 4, 2) := by decide +kernel
theorem dX8_mixRanges_119 : decode cX8_mixRanges 119 = .ok (.aload_n 3, 1) := by decide +kernel
theorem dX8_mixRanges_120 : decode cX8_mixRanges 120 = .ok (.getfield 236, 3) := by decide +kernel
theorem dX8_mixRanges_123 : decode cX8_mixRanges 123 = .ok (.iload 6, 2) := by decide +kernel
theorem dX8_mixRanges_125 : decode cX8_mixRanges 125 = .ok (.iaload, 1) := by decide +kernel
theorem dX8_mixRanges_126 : decode cX8_mixRanges 126 = .ok (.invokestatic 208, 3) := by decide +kernel
theorem dX8_mixRanges_129 : decode cX8_mixRanges 129 = .ok (.lstore 4, 2) := by decide +kernel
theorem dX8_mixRanges_131 : decode cX8_mixRanges 131 = .ok (.lload 4, 2) := by decide +kernel
theorem dX8_mixRanges_133 : decode cX8_mixRanges 133 = .ok (.aload_n 0, 1) := by decide +kernel
theorem dX8_mixRanges_134 : decode cX8_mixRanges 134 = .ok (.getfield 20, 3) := by decide +kernel
theorem dX8_mixRanges_137 : decode cX8_mixRanges 137 = .ok (.iload 6, 2) := by decide +kernel
theorem dX8_mixRanges_139 : decode cX8_mixRanges 139 = .ok (.invokevirtual 181, 3) := by decide +kernel
theorem dX8_mixRanges_142 : decode cX8_mixRanges 142 = .ok (.invokestatic 208, 3) := by decide +kernel
theorem dX8_mixRanges_145 : decode cX8_mixRanges 145 = .ok (.lstore 4, 2) := by decide +kernel
theorem dX8_mixRanges_147 : decode cX8_mixRanges 147 = .ok (.lload 4, 2) := by decide +kernel
theorem dX8_mixRanges_149 : decode cX8_mixRanges 149 = .ok (.aload_n 0, 1) := by decide +kernel
theorem dX8_mixRanges_150 : decode cX8_mixRanges 150 = .ok (.getfield 20, 3) := by decide +kernel
theorem dX8_mixRanges_153 : decode cX8_mixRanges 153 = .ok (.iload 6, 2) := by decide +kernel
theorem dX8_mixRanges_155 : decode cX8_mixRanges 155 = .ok (.invokevirtual 184, 3) := by decide +kernel
theorem dX8_mixRanges_158 : decode cX8_mixRanges 158 = .ok (.invokestatic 208, 3) := by decide +kernel
theorem dX8_mixRanges_161 : decode cX8_mixRanges 161 = .ok (.lstore 4, 2) := by decide +kernel
theorem dX8_mixRanges_163 : decode cX8_mixRanges 163 = .ok (.iinc 6 1, 3) := by decide +kernel
theorem dX8_mixRanges_166 : decode cX8_mixRanges 166 = .ok (.goto (-145), 3) := by decide +kernel
theorem dX8_mixRanges_169 : decode cX8_mixRanges 169 = .ok (.lload 4, 2) := by decide +kernel
theorem dX8_mixRanges_171 : decode cX8_mixRanges 171 = .ok (.lreturn, 1) := by decide +kernel
theorem dX8_mixRow_0 : decode cX8_mixRow 0 = .ok (.lload_n 0, 1) := by decide +kernel
theorem dX8_mixRow_1 : decode cX8_mixRow 1 = .ok (.iload_n 2, 1) := by decide +kernel
theorem dX8_mixRow_2 : decode cX8_mixRow 2 = .ok (.invokestatic 208, 3) := by decide +kernel
theorem dX8_mixRow_5 : decode cX8_mixRow 5 = .ok (.lstore 4, 2) := by decide +kernel
theorem dX8_mixRow_7 : decode cX8_mixRow 7 = .ok (.iconst 0, 1) := by decide +kernel
theorem dX8_mixRow_8 : decode cX8_mixRow 8 = .ok (.istore 6, 2) := by decide +kernel
theorem dX8_mixRow_10 : decode cX8_mixRow 10 = .ok (.iload 6, 2) := by decide +kernel
theorem dX8_mixRow_12 : decode cX8_mixRow 12 = .ok (.iload_n 2, 1) := by decide +kernel
theorem dX8_mixRow_13 : decode cX8_mixRow 13 = .ok (.if_icmp .ge 27, 3) := by decide +kernel
theorem dX8_mixRow_16 : decode cX8_mixRow 16 = .ok (.iload 6, 2) := by decide +kernel
theorem dX8_mixRow_18 : decode cX8_mixRow 18 = .ok (.aload_n 3, 1) := by decide +kernel
theorem dX8_mixRow_19 : decode cX8_mixRow 19 = .ok (.arraylength, 1) := by decide +kernel
theorem dX8_mixRow_20 : decode cX8_mixRow 20 = .ok (.if_icmp .ge 20, 3) := by decide +kernel
theorem dX8_mixRow_23 : decode cX8_mixRow 23 = .ok (.lload 4, 2) := by decide +kernel
theorem dX8_mixRow_25 : decode cX8_mixRow 25 = .ok (.aload_n 3, 1) := by decide +kernel
theorem dX8_mixRow_26 : decode cX8_mixRow 26 = .ok (.iload 6, 2) := by decide +kernel
theorem dX8_mixRow_28 : decode cX8_mixRow 28 = .ok (.iaload, 1) := by decide +kernel
theorem dX8_mixRow_29 : decode cX8_mixRow 29 = .ok (.invokestatic 208, 3) := by decide +kernel
theorem dX8_mixRow_32 : decode cX8_mixRow 32 = .ok (.lstore 4, 2) := by decide +kernel
theorem dX8_mixRow_34 : decode cX8_mixRow 34 = .ok (.iinc 6 1, 3) := by decide +kernel
theorem dX8_mixRow_37 : decode cX8_mixRow 37 = .ok (.goto (-27), 3) := by decide +kernel
theorem dX8_mixRow_40 : decode cX8_mixRow 40 = .ok (.lload 4, 2) := by decide +kernel
theorem dX8_mixRow_42 : decode cX8_mixRow 42 = .ok (.lreturn, 1) := by decide +kernel
theorem dX8_mix_0 : decode cX8_mix 0 = .ok (.ldc2_w 239, 3) := by decide +kernel
theorem dX8_mix_3 : decode cX8_mix 3 = .ok (.lload_n 0, 1) := by decide +kernel
theorem dX8_mix_4 : decode cX8_mix 4 = .ok (.lmul, 1) := by decide +kernel
theorem dX8_mix_5 : decode cX8_mix 5 = .ok (.iload_n 2, 1) := by decide +kernel
theorem dX8_mix_6 : decode cX8_mix 6 = .ok (.i2l, 1) := by decide +kernel
theorem dX8_mix_7 : decode cX8_mix 7 = .ok (.ladd, 1) := by decide +kernel
theorem dX8_mix_8 : decode cX8_mix 8 = .ok (.lreturn, 1) := by decide +kernel
theorem dX8_fail_0 : decode cX8_fail 0 = .ok (.iload_n 1, 1) := by decide +kernel
theorem dX8_fail_1 : decode cX8_fail 1 = .ok (.bipush (-2), 2) := by decide +kernel
theorem dX8_fail_3 : decode cX8_fail 3 = .ok (.if_icmp .ne 16, 3) := by decide +kernel
theorem dX8_fail_6 : decode cX8_fail 6 = .ok (.aload_n 0, 1) := by decide +kernel
theorem dX8_fail_7 : decode cX8_fail 7 = .ok (.dup, 1) := by decide +kernel
theorem dX8_fail_8 : decode cX8_fail 8 = .ok (.getfield 197, 3) := by decide +kernel
theorem dX8_fail_11 : decode cX8_fail 11 = .ok (.iconst 1, 1) := by decide +kernel
theorem dX8_fail_12 : decode cX8_fail 12 = .ok (.iadd, 1) := by decide +kernel
theorem dX8_fail_13 : decode cX8_fail 13 = .ok (.putfield 197, 3) := by decide +kernel
theorem dX8_fail_16 : decode cX8_fail 16 = .ok (.goto 32, 3) := by decide +kernel
theorem dX8_fail_19 : decode cX8_fail 19 = .ok (.iload_n 1, 1) := by decide +kernel
theorem dX8_fail_20 : decode cX8_fail 20 = .ok (.bipush (-3), 2) := by decide +kernel
theorem dX8_fail_22 : decode cX8_fail 22 = .ok (.if_icmp .ne 16, 3) := by decide +kernel
theorem dX8_fail_25 : decode cX8_fail 25 = .ok (.aload_n 0, 1) := by decide +kernel
theorem dX8_fail_26 : decode cX8_fail 26 = .ok (.dup, 1) := by decide +kernel
theorem dX8_fail_27 : decode cX8_fail 27 = .ok (.getfield 200, 3) := by decide +kernel
theorem dX8_fail_30 : decode cX8_fail 30 = .ok (.iconst 1, 1) := by decide +kernel
theorem dX8_fail_31 : decode cX8_fail 31 = .ok (.iadd, 1) := by decide +kernel
theorem dX8_fail_32 : decode cX8_fail 32 = .ok (.putfield 200, 3) := by decide +kernel
theorem dX8_fail_35 : decode cX8_fail 35 = .ok (.goto 13, 3) := by decide +kernel
theorem dX8_fail_38 : decode cX8_fail 38 = .ok (.aload_n 0, 1) := by decide +kernel
theorem dX8_fail_39 : decode cX8_fail 39 = .ok (.dup, 1) := by decide +kernel
theorem dX8_fail_40 : decode cX8_fail 40 = .ok (.getfield 203, 3) := by decide +kernel
theorem dX8_fail_43 : decode cX8_fail 43 = .ok (.iconst 1, 1) := by decide +kernel
theorem dX8_fail_44 : decode cX8_fail 44 = .ok (.iadd, 1) := by decide +kernel
theorem dX8_fail_45 : decode cX8_fail 45 = .ok (.putfield 203, 3) := by decide +kernel
theorem dX8_fail_48 : decode cX8_fail 48 = .ok (.iload_n 1, 1) := by decide +kernel
theorem dX8_fail_49 : decode cX8_fail 49 = .ok (.ireturn, 1) := by decide +kernel
theorem dX8_isWithin_0 : decode cX8_isWithin 0 = .ok (.iload_n 0, 1) := by decide +kernel
theorem dX8_isWithin_1 : decode cX8_isWithin 1 = .ok (.iload_n 1, 1) := by decide +kernel
theorem dX8_isWithin_2 : decode cX8_isWithin 2 = .ok (.if_icmp .lt 12, 3) := by decide +kernel
theorem dX8_isWithin_5 : decode cX8_isWithin 5 = .ok (.iload_n 0, 1) := by decide +kernel
theorem dX8_isWithin_6 : decode cX8_isWithin 6 = .ok (.iload_n 2, 1) := by decide +kernel
theorem dX8_isWithin_7 : decode cX8_isWithin 7 = .ok (.if_icmp .gt 7, 3) := by decide +kernel
theorem dX8_isWithin_10 : decode cX8_isWithin 10 = .ok (.iconst 1, 1) := by decide +kernel
theorem dX8_isWithin_11 : decode cX8_isWithin 11 = .ok (.goto 4, 3) := by decide +kernel
theorem dX8_isWithin_14 : decode cX8_isWithin 14 = .ok (.iconst 0, 1) := by decide +kernel
theorem dX8_isWithin_15 : decode cX8_isWithin 15 = .ok (.ireturn, 1) := by decide +kernel
theorem dX8_isKey_0 : decode cX8_isKey 0 = .ok (.iload_n 0, 1) := by decide +kernel
theorem dX8_isKey_1 : decode cX8_isKey 1 = .ok (.iconst 0, 1) := by decide +kernel
theorem dX8_isKey_2 : decode cX8_isKey 2 = .ok (.sipush 9999, 3) := by decide +kernel
theorem dX8_isKey_5 : decode cX8_isKey 5 = .ok (.invokestatic 28, 3) := by decide +kernel
theorem dX8_isKey_8 : decode cX8_isKey 8 = .ok (.ireturn, 1) := by decide +kernel
theorem dX8_bit_0 : decode cX8_bit 0 = .ok (.iload_n 0, 1) := by decide +kernel
theorem dX8_bit_1 : decode cX8_bit 1 = .ok (.iconst (-1), 1) := by decide +kernel
theorem dX8_bit_2 : decode cX8_bit 2 = .ok (.if_icmp .ne 7, 3) := by decide +kernel
theorem dX8_bit_5 : decode cX8_bit 5 = .ok (.iconst 0, 1) := by decide +kernel
theorem dX8_bit_6 : decode cX8_bit 6 = .ok (.goto 6, 3) := by decide +kernel
theorem dX8_bit_9 : decode cX8_bit 9 = .ok (.iconst 1, 1) := by decide +kernel
theorem dX8_bit_10 : decode cX8_bit 10 = .ok (.iload_n 0, 1) := by decide +kernel
theorem dX8_bit_11 : decode cX8_bit 11 = .ok (.ishl, 1) := by decide +kernel
theorem dX8_bit_12 : decode cX8_bit 12 = .ok (.ireturn, 1) := by decide +kernel
theorem dX8_copyRow_0 : decode cX8_copyRow 0 = .ok (.aload_n 0, 1) := by decide +kernel
theorem dX8_copyRow_1 : decode cX8_copyRow 1 = .ok (.iconst 0, 1) := by decide +kernel
theorem dX8_copyRow_2 : decode cX8_copyRow 2 = .ok (.aload_n 1, 1) := by decide +kernel
theorem dX8_copyRow_3 : decode cX8_copyRow 3 = .ok (.iconst 0, 1) := by decide +kernel
theorem dX8_copyRow_4 : decode cX8_copyRow 4 = .ok (.aload_n 0, 1) := by decide +kernel
theorem dX8_copyRow_5 : decode cX8_copyRow 5 = .ok (.arraylength, 1) := by decide +kernel
theorem dX8_copyRow_6 : decode cX8_copyRow 6 = .ok (.aload_n 1, 1) := by decide +kernel
theorem dX8_copyRow_7 : decode cX8_copyRow 7 = .ok (.arraylength, 1) := by decide +kernel
theorem dX8_copyRow_8 : decode cX8_copyRow 8 = .ok (.invokestatic 241, 3) := by decide +kernel
theorem dX8_copyRow_11 : decode cX8_copyRow 11 = .ok (.invokestatic 246, 3) := by decide +kernel
theorem dX8_copyRow_14 : decode cX8_copyRow 14 = .ok (.return_, 1) := by decide +kernel
theorem dX9_init_0 : decode cX9_init 0 = .ok (.aload_n 0, 1) := by decide +kernel
theorem dX9_init_1 : decode cX9_init 1 = .ok (.invokespecial 1, 3) := by decide +kernel
theorem dX9_init_4 : decode cX9_init 4 = .ok (.aload_n 0, 1) := by decide +kernel
theorem dX9_init_5 : decode cX9_init 5 = .ok (.sipush 299, 3) := by decide +kernel
theorem dX9_init_8 : decode cX9_init 8 = .ok (.newarray .int, 2) := by decide +kernel
theorem dX9_init_10 : decode cX9_init 10 = .ok (.putfield 7, 3) := by decide +kernel
theorem dX9_init_13 : decode cX9_init 13 = .ok (.aload_n 0, 1) := by decide +kernel
theorem dX9_init_14 : decode cX9_init 14 = .ok (.sipush 1196, 3) := by decide +kernel
theorem dX9_init_17 : decode cX9_init 17 = .ok (.newarray .int, 2) := by decide +kernel
theorem dX9_init_19 : decode cX9_init 19 = .ok (.putfield 13, 3) := by decide +kernel
theorem dX9_init_22 : decode cX9_init 22 = .ok (.aload_n 0, 1) := by decide +kernel
theorem dX9_init_23 : decode cX9_init 23 = .ok (.iconst 3, 1) := by decide +kernel
theorem dX9_init_24 : decode cX9_init 24 = .ok (.newarray .int, 2) := by decide +kernel
theorem dX9_init_26 : decode cX9_init 26 = .ok (.putfield 16, 3) := by decide +kernel
theorem dX9_init_29 : decode cX9_init 29 = .ok (.aload_n 0, 1) := by decide +kernel
theorem dX9_init_30 : decode cX9_init 30 = .ok (.getfield 7, 3) := by decide +kernel
theorem dX9_init_33 : decode cX9_init 33 = .ok (.iconst 0, 1) := by decide +kernel
theorem dX9_init_34 : decode cX9_init 34 = .ok (.iconst 3, 1) := by decide +kernel
theorem dX9_init_35 : decode cX9_init 35 = .ok (.iastore, 1) := by decide +kernel
theorem dX9_init_36 : decode cX9_init 36 = .ok (.aload_n 0, 1) := by decide +kernel
theorem dX9_init_37 : decode cX9_init 37 = .ok (.getfield 7, 3) := by decide +kernel
theorem dX9_init_40 : decode cX9_init 40 = .ok (.iconst 1, 1) := by decide +kernel
theorem dX9_init_41 : decode cX9_init 41 = .ok (.bipush 20, 2) := by decide +kernel
theorem dX9_init_43 : decode cX9_init 43 = .ok (.iastore, 1) := by decide +kernel
theorem dX9_init_44 : decode cX9_init 44 = .ok (.aload_n 0, 1) := by decide +kernel
theorem dX9_init_45 : decode cX9_init 45 = .ok (.getfield 7, 3) := by decide +kernel
theorem dX9_init_48 : decode cX9_init 48 = .ok (.iconst 2, 1) := by decide +kernel
theorem dX9_init_49 : decode cX9_init 49 = .ok (.bipush 100, 2) := by decide +kernel
theorem dX9_init_51 : decode cX9_init 51 = .ok (.iastore, 1) := by decide +kernel
theorem dX9_init_52 : decode cX9_init 52 = .ok (.aload_n 0, 1) := by decide +kernel
theorem dX9_init_53 : decode cX9_init 53 = .ok (.getfield 7, 3) := by decide +kernel
theorem dX9_init_56 : decode cX9_init 56 = .ok (.iconst 3, 1) := by decide +kernel
theorem dX9_init_57 : decode cX9_init 57 = .ok (.iconst 2, 1) := by decide +kernel
theorem dX9_init_58 : decode cX9_init 58 = .ok (.iastore, 1) := by decide +kernel
theorem dX9_init_59 : decode cX9_init 59 = .ok (.aload_n 0, 1) := by decide +kernel
theorem dX9_init_60 : decode cX9_init 60 = .ok (.getfield 7, 3) := by decide +kernel
theorem dX9_init_63 : decode cX9_init 63 = .ok (.iconst 4, 1) := by decide +kernel
theorem dX9_init_64 : decode cX9_init 64 = .ok (.bipush 16, 2) := by decide +kernel
theorem dX9_init_66 : decode cX9_init 66 = .ok (.iastore, 1) := by decide +kernel
theorem dX9_init_67 : decode cX9_init 67 = .ok (.aload_n 0, 1) := by decide +kernel
theorem dX9_init_68 : decode cX9_init 68 = .ok (.getfield 7, 3) := by decide +kernel
theorem dX9_init_71 : decode cX9_init 71 = .ok (.iconst 5, 1) := by decide +kernel
theorem dX9_init_72 : decode cX9_init 72 = .ok (.bipush 10, 2) := by decide +kernel
theorem dX9_init_74 : decode cX9_init 74 = .ok (.iastore, 1) := by decide +kernel
theorem dX9_init_75 : decode cX9_init 75 = .ok (.aload_n 0, 1) := by decide +kernel
theorem dX9_init_76 : decode cX9_init 76 = .ok (.getfield 7, 3) := by decide +kernel
theorem dX9_init_79 : decode cX9_init 79 = .ok (.bipush 17, 2) := by decide +kernel
theorem dX9_init_81 : decode cX9_init 81 = .ok (.iconst 1, 1) := by decide +kernel
theorem dX9_init_82 : decode cX9_init 82 = .ok (.iastore, 1) := by decide +kernel
theorem dX9_init_83 : decode cX9_init 83 = .ok (.aload_n 0, 1) := by decide +kernel
theorem dX9_init_84 : decode cX9_init 84 = .ok (.iconst 0, 1) := by decide +kernel
theorem dX9_init_85 : decode cX9_init 85 = .ok (.iconst 2, 1) := by decide +kernel
theorem dX9_init_86 : decode cX9_init 86 = .ok (.iconst (-1), 1) := by decide +kernel
theorem dX9_init_87 : decode cX9_init 87 = .ok (.invokevirtual 19, 3) := by decide +kernel
theorem dX9_init_90 : decode cX9_init 90 = .ok (.aload_n 0, 1) := by decide +kernel
theorem dX9_init_91 : decode cX9_init 91 = .ok (.iconst 0, 1) := by decide +kernel
theorem dX9_init_92 : decode cX9_init 92 = .ok (.iconst 3, 1) := by decide +kernel
theorem dX9_init_93 : decode cX9_init 93 = .ok (.iconst (-1), 1) := by decide +kernel
theorem dX9_init_94 : decode cX9_init 94 = .ok (.invokevirtual 19, 3) := by decide +kernel
theorem dX9_init_97 : decode cX9_init 97 = .ok (.aload_n 0, 1) := by decide +kernel
theorem dX9_init_98 : decode cX9_init 98 = .ok (.iconst 0, 1) := by decide +kernel
theorem dX9_init_99 : decode cX9_init 99 = .ok (.iconst 5, 1) := by decide +kernel
theorem dX9_init_100 : decode cX9_init 100 = .ok (.iconst (-1), 1) := by decide +kernel
theorem dX9_init_101 : decode cX9_init 101 = .ok (.invokevirtual 19, 3) := by decide +kernel
theorem dX9_init_104 : decode cX9_init 104 = .ok (.return_, 1) := by decide +kernel
theorem dX9_in_0 : decode cX9_in 0 = .ok (.iload_n 0, 1) := by decide +kernel
theorem dX9_in_1 : decode cX9_in 1 = .ok (.iload_n 1, 1) := by decide +kernel
theorem dX9_in_2 : decode cX9_in 2 = .ok (.if_icmp .lt 12, 3) := by decide +kernel
theorem dX9_in_5 : decode cX9_in 5 = .ok (.iload_n 0, 1) := by decide +kernel
theorem dX9_in_6 : decode cX9_in 6 = .ok (.iload_n 2, 1) := by decide +kernel
theorem dX9_in_7 : decode cX9_in 7 = .ok (.if_icmp .gt 7, 3) := by decide +kernel
theorem dX9_in_10 : decode cX9_in 10 = .ok (.iconst 1, 1) := by decide +kernel
theorem dX9_in_11 : decode cX9_in 11 = .ok (.goto 4, 3) := by decide +kernel
theorem dX9_in_14 : decode cX9_in 14 = .ok (.iconst 0, 1) := by decide +kernel
theorem dX9_in_15 : decode cX9_in 15 = .ok (.ireturn, 1) := by decide +kernel
theorem dX9_has_0 : decode cX9_has 0 = .ok (.iload_n 0, 1) := by decide +kernel
theorem dX9_has_1 : decode cX9_has 1 = .ok (.iload_n 1, 1) := by decide +kernel
theorem dX9_has_2 : decode cX9_has 2 = .ok (.ishr, 1) := by decide +kernel
theorem dX9_has_3 : decode cX9_has 3 = .ok (.iconst 1, 1) := by decide +kernel
theorem dX9_has_4 : decode cX9_has 4 = .ok (.iand, 1) := by decide +kernel
theorem dX9_has_5 : decode cX9_has 5 = .ok (.iconst 1, 1) := by decide +kernel
theorem dX9_has_6 : decode cX9_has 6 = .ok (.if_icmp .ne 7, 3) := by decide +kernel
theorem dX9_has_9 : decode cX9_has 9 = .ok (.iconst 1, 1) := by decide +kernel
theorem dX9_has_10 : decode cX9_has 10 = .ok (.goto 4, 3) := by decide +kernel
theorem dX9_has_13 : decode cX9_has 13 = .ok (.iconst 0, 1) := by decide +kernel
theorem dX9_has_14 : decode cX9_has 14 = .ok (.ireturn, 1) := by decide +kernel
theorem dX9_count_0 : decode cX9_count 0 = .ok (.iconst 0, 1) := by decide +kernel
theorem dX9_count_1 : decode cX9_count 1 = .ok (.istore_n 1, 1) := by decide +kernel
theorem dX9_count_2 : decode cX9_count 2 = .ok (.iconst 0, 1) := by decide +kernel
theorem dX9_count_3 : decode cX9_count 3 = .ok (.istore_n 2, 1) := by decide +kernel
theorem dX9_count_4 : decode cX9_count 4 = .ok (.iload_n 2, 1) := by decide +kernel
theorem dX9_count_5 : decode cX9_count 5 = .ok (.bipush 8, 2) := by decide +kernel
theorem dX9_count_7 : decode cX9_count 7 = .ok (.if_icmp .ge 17, 3) := by decide +kernel
theorem dX9_count_10 : decode cX9_count 10 = .ok (.iload_n 1, 1) := by decide +kernel
theorem dX9_count_11 : decode cX9_count 11 = .ok (.iload_n 0, 1) := by decide +kernel
theorem dX9_count_12 : decode cX9_count 12 = .ok (.iload_n 2, 1) := by decide +kernel
theorem dX9_count_13 : decode cX9_count 13 = .ok (.ishr, 1) := by decide +kernel
theorem dX9_count_14 : decode cX9_count 14 = .ok (.iconst 1, 1) := by decide +kernel
theorem dX9_count_15 : decode cX9_count 15 = .ok (.iand, 1) := by decide +kernel
theorem dX9_count_16 : decode cX9_count 16 = .ok (.iadd, 1) := by decide +kernel
theorem dX9_count_17 : decode cX9_count 17 = .ok (.istore_n 1, 1) := by decide +kernel
theorem dX9_count_18 : decode cX9_count 18 = .ok (.iinc 2 1, 3) := by decide +kernel
theorem dX9_count_21 : decode cX9_count 21 = .ok (.goto (-17), 3) := by decide +kernel
theorem dX9_count_24 : decode cX9_count 24 = .ok (.iload_n 1, 1) := by decide +kernel
theorem dX9_count_25 : decode cX9_count 25 = .ok (.ireturn, 1) := by decide +kernel
theorem dX9_fail_0 : decode cX9_fail 0 = .ok (.aload_n 0, 1) := by decide +kernel
theorem dX9_fail_1 : decode cX9_fail 1 = .ok (.getfield 16, 3) := by decide +kernel
theorem dX9_fail_4 : decode cX9_fail 4 = .ok (.bipush (-2), 2) := by decide +kernel
theorem dX9_fail_6 : decode cX9_fail 6 = .ok (.iload_n 1, 1) := by decide +kernel
theorem dX9_fail_7 : decode cX9_fail 7 = .ok (.isub, 1) := by decide +kernel
theorem dX9_fail_8 : decode cX9_fail 8 = .ok (.dup2, 1) := by decide +kernel
theorem dX9_fail_9 : decode cX9_fail 9 = .ok (.iaload, 1) := by decide +kernel
theorem dX9_fail_10 : decode cX9_fail 10 = .ok (.iconst 1, 1) := by decide +kernel
theorem dX9_fail_11 : decode cX9_fail 11 = .ok (.iadd, 1) := by decide +kernel
theorem dX9_fail_12 : decode cX9_fail 12 = .ok (.iastore, 1) := by decide +kernel
theorem dX9_fail_13 : decode cX9_fail 13 = .ok (.iload_n 1, 1) := by decide +kernel
theorem dX9_fail_14 : decode cX9_fail 14 = .ok (.ireturn, 1) := by decide +kernel
theorem dX9_note_0 : decode cX9_note 0 = .ok (.aload_n 0, 1) := by decide +kernel
theorem dX9_note_1 : decode cX9_note 1 = .ok (.getfield 23, 3) := by decide +kernel
theorem dX9_note_4 : decode cX9_note 4 = .ok (.iconst 4, 1) := by decide +kernel
theorem dX9_note_5 : decode cX9_note 5 = .ok (.if_icmp .ne 44, 3) := by decide +kernel
theorem dX9_note_8 : decode cX9_note 8 = .ok (.iconst 0, 1) := by decide +kernel
theorem dX9_note_9 : decode cX9_note 9 = .ok (.istore_n 1, 1) := by decide +kernel
theorem dX9_note_10 : decode cX9_note 10 = .ok (.iload_n 1, 1) := by decide +kernel
theorem dX9_note_11 : decode cX9_note 11 = .ok (.sipush 897, 3) := by decide +kernel
theorem dX9_note_14 : decode cX9_note 14 = .ok (.if_icmp .ge 25, 3) := by decide +kernel
theorem dX9_note_17 : decode cX9_note 17 = .ok (.aload_n 0, 1) := by decide +kernel
theorem dX9_note_18 : decode cX9_note 18 = .ok (.getfield 13, 3) := by decide +kernel
theorem dX9_note_21 : decode cX9_note 21 = .ok (.iload_n 1, 1) := by decide +kernel
theorem dX9_note_22 : decode cX9_note 22 = .ok (.aload_n 0, 1) := by decide +kernel
theorem dX9_note_23 : decode cX9_note 23 = .ok (.getfield 13, 3) := by decide +kernel
theorem dX9_note_26 : decode cX9_note 26 = .ok (.iload_n 1, 1) := by decide +kernel
theorem dX9_note_27 : decode cX9_note 27 = .ok (.sipush 299, 3) := by decide +kernel
theorem dX9_note_30 : decode cX9_note 30 = .ok (.iadd, 1) := by decide +kernel
theorem dX9_note_31 : decode cX9_note 31 = .ok (.iaload, 1) := by decide +kernel
theorem dX9_note_32 : decode cX9_note 32 = .ok (.iastore, 1) := by decide +kernel
theorem dX9_note_33 : decode cX9_note 33 = .ok (.iinc 1 1, 3) := by decide +kernel
theorem dX9_note_36 : decode cX9_note 36 = .ok (.goto (-26), 3) := by decide +kernel
theorem dX9_note_39 : decode cX9_note 39 = .ok (.aload_n 0, 1) := by decide +kernel
theorem dX9_note_40 : decode cX9_note 40 = .ok (.dup, 1) := by decide +kernel
theorem dX9_note_41 : decode cX9_note 41 = .ok (.getfield 23, 3) := by decide +kernel
theorem dX9_note_44 : decode cX9_note 44 = .ok (.iconst 1, 1) := by decide +kernel
theorem dX9_note_45 : decode cX9_note 45 = .ok (.isub, 1) := by decide +kernel
theorem dX9_note_46 : decode cX9_note 46 = .ok (.putfield 23, 3) := by decide +kernel
theorem dX9_note_49 : decode cX9_note 49 = .ok (.iconst 0, 1) := by decide +kernel
theorem dX9_note_50 : decode cX9_note 50 = .ok (.istore_n 1, 1) := by decide +kernel
theorem dX9_note_51 : decode cX9_note 51 = .ok (.iload_n 1, 1) := by decide +kernel
theorem dX9_note_52 : decode cX9_note 52 = .ok (.sipush 299, 3) := by decide +kernel
theorem dX9_note_55 : decode cX9_note 55 = .ok (.if_icmp .ge 30, 3) := by decide +kernel
theorem dX9_note_58 : decode cX9_note 58 = .ok (.aload_n 0, 1) := by decide +kernel
theorem dX9_note_59 : decode cX9_note 59 = .ok (.getfield 13, 3) := by decide +kernel
theorem dX9_note_62 : decode cX9_note 62 = .ok (.sipush 299, 3) := by decide +kernel
theorem dX9_note_65 : decode cX9_note 65 = .ok (.aload_n 0, 1) := by decide +kernel
theorem dX9_note_66 : decode cX9_note 66 = .ok (.getfield 23, 3) := by decide +kernel
theorem dX9_note_69 : decode cX9_note 69 = .ok (.imul, 1) := by decide +kernel
theorem dX9_note_70 : decode cX9_note 70 = .ok (.iload_n 1, 1) := by decide +kernel
theorem dX9_note_71 : decode cX9_note 71 = .ok (.iadd, 1) := by decide +kernel
theorem dX9_note_72 : decode cX9_note 72 = .ok (.aload_n 0, 1) := by decide +kernel
theorem dX9_note_73 : decode cX9_note 73 = .ok (.getfield 7, 3) := by decide +kernel
theorem dX9_note_76 : decode cX9_note 76 = .ok (.iload_n 1, 1) := by decide +kernel
theorem dX9_note_77 : decode cX9_note 77 = .ok (.iaload, 1) := by decide +kernel
theorem dX9_note_78 : decode cX9_note 78 = .ok (.iastore, 1) := by decide +kernel
theorem dX9_note_79 : decode cX9_note 79 = .ok (.iinc 1 1, 3) := by decide +kernel
theorem dX9_note_82 : decode cX9_note 82 = .ok (.goto (-31), 3) := by decide +kernel
theorem dX9_note_85 : decode cX9_note 85 = .ok (.aload_n 0, 1) := by decide +kernel
theorem dX9_note_86 : decode cX9_note 86 = .ok (.dup, 1) := by decide +kernel
theorem dX9_note_87 : decode cX9_note 87 = .ok (.getfield 23, 3) := by decide +kernel
theorem dX9_note_90 : decode cX9_note 90 = .ok (.iconst 1, 1) := by decide +kernel
theorem dX9_note_91 : decode cX9_note 91 = .ok (.iadd, 1) := by decide +kernel
theorem dX9_note_92 : decode cX9_note 92 = .ok (.putfield 23, 3) := by decide +kernel
theorem dX9_note_95 : decode cX9_note 95 = .ok (.return_, 1) := by decide +kernel
theorem dX9_undo_0 : decode cX9_undo 0 = .ok (.aload_n 0, 1) := by decide +kernel
theorem dX9_undo_1 : decode cX9_undo 1 = .ok (.getfield 23, 3) := by decide +kernel
theorem dX9_undo_4 : decode cX9_undo 4 = .ok (.ifCond .ne 10, 3) := by decide +kernel
theorem dX9_undo_7 : decode cX9_undo 7 = .ok (.aload_n 0, 1) := by decide +kernel
theorem dX9_undo_8 : decode cX9_undo 8 = .ok (.bipush (-3), 2) := by decide +kernel
theorem dX9_undo_10 : decode cX9_undo 10 = .ok (.invokevirtual 27, 3) := by decide +kernel
theorem dX9_undo_13 : decode cX9_undo 13 = .ok (.ireturn, 1) := by decide +kernel
theorem dX9_undo_14 : decode cX9_undo 14 = .ok (.aload_n 0, 1) := by decide +kernel
theorem dX9_undo_15 : decode cX9_undo 15 = .ok (.dup, 1) := by decide +kernel
theorem dX9_undo_16 : decode cX9_undo 16 = .ok (.getfield 23, 3) := by decide +kernel
theorem dX9_undo_19 : decode cX9_undo 19 = .ok (.iconst 1, 1) := by decide +kernel
theorem dX9_undo_20 : decode cX9_undo 20 = .ok (.isub, 1) := by decide +kernel
theorem dX9_undo_21 : decode cX9_undo 21 = .ok (.putfield 23, 3) := by decide +kernel
theorem dX9_undo_24 : decode cX9_undo 24 = .ok (.iconst 0, 1) := by decide +kernel
theorem dX9_undo_25 : decode cX9_undo 25 = .ok (.istore_n 1, 1) := by decide +kernel
theorem dX9_undo_26 : decode cX9_undo 26 = .ok (.iload_n 1, 1) := by decide +kernel
theorem dX9_undo_27 : decode cX9_undo 27 = .ok (.sipush 299, 3) := by decide +kernel
theorem dX9_undo_30 : decode cX9_undo 30 = .ok (.if_icmp .ge 30, 3) := by decide +kernel
theorem dX9_undo_33 : decode cX9_undo 33 = .ok (.aload_n 0, 1) := by decide +kernel
theorem dX9_undo_34 : decode cX9_undo 34 = .ok (.getfield 7, 3) := by decide +kernel
theorem dX9_undo_37 : decode cX9_undo 37 = .ok (.iload_n 1, 1) := by decide +kernel
theorem dX9_undo_38 : decode cX9_undo 38 = .ok (.aload_n 0, 1) := by decide +kernel
theorem dX9_undo_39 : decode cX9_undo 39 = .ok (.getfield 13, 3) := by decide +kernel
theorem dX9_undo_42 : decode cX9_undo 42 = .ok (.sipush 299, 3) := by decide +kernel
theorem dX9_undo_45 : decode cX9_undo 45 = .ok (.aload_n 0, 1) := by decide +kernel
theorem dX9_undo_46 : decode cX9_undo 46 = .ok (.getfield 23, 3) := by decide +kernel
theorem dX9_undo_49 : decode cX9_undo 49 = .ok (.imul, 1) := by decide +kernel
theorem dX9_undo_50 : decode cX9_undo 50 = .ok (.iload_n 1, 1) := by decide +kernel
theorem dX9_undo_51 : decode cX9_undo 51 = .ok (.iadd, 1) := by decide +kernel
theorem dX9_undo_52 : decode cX9_undo 52 = .ok (.iaload, 1) := by decide +kernel
theorem dX9_undo_53 : decode cX9_undo 53 = .ok (.iastore, 1) := by decide +kernel
theorem dX9_undo_54 : decode cX9_undo 54 = .ok (.iinc 1 1, 3) := by decide +kernel
theorem dX9_undo_57 : decode cX9_undo 57 = .ok (.goto (-31), 3) := by decide +kernel
theorem dX9_undo_60 : decode cX9_undo 60 = .ok (.aload_n 0, 1) := by decide +kernel
theorem dX9_undo_61 : decode cX9_undo 61 = .ok (.getfield 23, 3) := by decide +kernel
theorem dX9_undo_64 : decode cX9_undo 64 = .ok (.ireturn, 1) := by decide +kernel
theorem dX9_of_0 : decode cX9_of 0 = .ok (.aload_n 0, 1) := by decide +kernel
theorem dX9_of_1 : decode cX9_of 1 = .ok (.getfield 7, 3) := by decide +kernel
theorem dX9_of_4 : decode cX9_of 4 = .ok (.sipush 171, 3) := by decide +kernel
theorem dX9_of_7 : decode cX9_of 7 = .ok (.bipush 6, 2) := by decide +kernel
theorem dX9_of_9 : decode cX9_of 9 = .ok (.iload_n 1, 1) := by decide +kernel
theorem dX9_of_10 : decode cX9_of 10 = .ok (.imul, 1) := by decide +kernel
theorem dX9_of_11 : decode cX9_of 11 = .ok (.iadd, 1) := by decide +kernel
theorem dX9_of_12 : decode cX9_of 12 = .ok (.iload_n 2, 1) := by decide +kernel
theorem dX9_of_13 : decode cX9_of 13 = .ok (.iadd, 1) := by decide +kernel
theorem dX9_of_14 : decode cX9_of 14 = .ok (.iaload, 1) := by decide +kernel
theorem dX9_of_15 : decode cX9_of 15 = .ok (.ireturn, 1) := by decide +kernel
theorem dX9_set_0 : decode cX9_set 0 = .ok (.aload_n 0, 1) := by decide +kernel
theorem dX9_set_1 : decode cX9_set 1 = .ok (.getfield 7, 3) := by decide +kernel
theorem dX9_set_4 : decode cX9_set 4 = .ok (.sipush 171, 3) := by decide +kernel
theorem dX9_set_7 : decode cX9_set 7 = .ok (.bipush 6, 2) := by decide +kernel
theorem dX9_set_9 : decode cX9_set 9 = .ok (.iload_n 1, 1) := by decide +kernel
theorem dX9_set_10 : decode cX9_set 10 = .ok (.imul, 1) := by decide +kernel
theorem dX9_set_11 : decode cX9_set 11 = .ok (.iadd, 1) := by decide +kernel
theorem dX9_set_12 : decode cX9_set 12 = .ok (.iload_n 2, 1) := by decide +kernel
theorem dX9_set_13 : decode cX9_set 13 = .ok (.iadd, 1) := by decide +kernel
theorem dX9_set_14 : decode cX9_set 14 = .ok (.iload_n 3, 1) := by decide +kernel
theorem dX9_set_15 : decode cX9_set 15 = .ok (.iastore, 1) := by decide +kernel
theorem dX9_set_16 : decode cX9_set 16 = .ok (.return_, 1) := by decide +kernel
theorem dX9_isNode_0 : decode cX9_isNode 0 = .ok (.iload_n 1, 1) := by decide +kernel
theorem dX9_isNode_1 : decode cX9_isNode 1 = .ok (.iconst 0, 1) := by decide +kernel
theorem dX9_isNode_2 : decode cX9_isNode 2 = .ok (.aload_n 0, 1) := by decide +kernel
theorem dX9_isNode_3 : decode cX9_isNode 3 = .ok (.getfield 7, 3) := by decide +kernel
theorem dX9_isNode_6 : decode cX9_isNode 6 = .ok (.bipush 15, 2) := by decide +kernel
theorem dX9_isNode_8 : decode cX9_isNode 8 = .ok (.iaload, 1) := by decide +kernel
theorem dX9_isNode_9 : decode cX9_isNode 9 = .ok (.iconst 1, 1) := by decide +kernel
theorem dX9_isNode_10 : decode cX9_isNode 10 = .ok (.isub, 1) := by decide +kernel
theorem dX9_isNode_11 : decode cX9_isNode 11 = .ok (.invokestatic 31, 3) := by decide +kernel
theorem dX9_isNode_14 : decode cX9_isNode 14 = .ok (.ireturn, 1) := by decide +kernel
theorem dX9_isRange_0 : decode cX9_isRange 0 = .ok (.iload_n 1, 1) := by decide +kernel
theorem dX9_isRange_1 : decode cX9_isRange 1 = .ok (.iconst 0, 1) := by decide +kernel
theorem dX9_isRange_2 : decode cX9_isRange 2 = .ok (.aload_n 0, 1) := by decide +kernel
theorem dX9_isRange_3 : decode cX9_isRange 3 = .ok (.getfield 7, 3) := by decide +kernel
theorem dX9_isRange_6 : decode cX9_isRange 6 = .ok (.bipush 17, 2) := by decide +kernel
theorem dX9_isRange_8 : decode cX9_isRange 8 = .ok (.iaload, 1) := by decide +kernel
theorem dX9_isRange_9 : decode cX9_isRange 9 = .ok (.iconst 1, 1) := by decide +kernel
theorem dX9_isRange_10 : decode cX9_isRange 10 = .ok (.isub, 1) := by decide +kernel
theorem dX9_isRange_11 : decode cX9_isRange 11 = .ok (.invokestatic 31, 3) := by decide +kernel
theorem dX9_isRange_14 : decode cX9_isRange 14 = .ok (.ireturn, 1) := by decide +kernel
theorem dX9_isKey_0 : decode cX9_isKey 0 = .ok (.iload_n 0, 1) := by decide +kernel
theorem dX9_isKey_1 : decode cX9_isKey 1 = .ok (.iconst 0, 1) := by decide +kernel
theorem dX9_isKey_2 : decode cX9_isKey 2 = .ok (.sipush 9999, 3) := by decide +kernel
theorem dX9_isKey_5 : decode cX9_isKey 5 = .ok (.invokestatic 31, 3) := by decide +kernel
theorem dX9_isKey_8 : decode cX9_isKey 8 = .ok (.ireturn, 1) := by decide +kernel
theorem dX9_zone_0 : decode cX9_zone 0 = .ok (.aload_n 0, 1) := by decide +kernel
theorem dX9_zone_1 : decode cX9_zone 1 = .ok (.getfield 7, 3) := by decide +kernel
theorem dX9_zone_4 : decode cX9_zone 4 = .ok (.bipush 19, 2) := by decide +kernel
theorem dX9_zone_6 : decode cX9_zone 6 = .ok (.iconst 3, 1) := by decide +kernel
theorem dX9_zone_7 : decode cX9_zone 7 = .ok (.iload_n 1, 1) := by decide +kernel
theorem dX9_zone_8 : decode cX9_zone 8 = .ok (.imul, 1) := by decide +kernel
theorem dX9_zone_9 : decode cX9_zone 9 = .ok (.iadd, 1) := by decide +kernel
theorem dX9_zone_10 : decode cX9_zone 10 = .ok (.iaload, 1) := by decide +kernel
theorem dX9_zone_11 : decode cX9_zone 11 = .ok (.ireturn, 1) := by decide +kernel
theorem dX9_isUp_0 : decode cX9_isUp 0 = .ok (.aload_n 0, 1) := by decide +kernel
theorem dX9_isUp_1 : decode cX9_isUp 1 = .ok (.getfield 7, 3) := by decide +kernel
theorem dX9_isUp_4 : decode cX9_isUp 4 = .ok (.bipush 19, 2) := by decide +kernel
theorem dX9_isUp_6 : decode cX9_isUp 6 = .ok (.iconst 3, 1) := by decide +kernel
theorem dX9_isUp_7 : decode cX9_isUp 7 = .ok (.iload_n 1, 1) := by decide +kernel
theorem dX9_isUp_8 : decode cX9_isUp 8 = .ok (.imul, 1) := by decide +kernel
theorem dX9_isUp_9 : decode cX9_isUp 9 = .ok (.iadd, 1) := by decide +kernel
theorem dX9_isUp_10 : decode cX9_isUp 10 = .ok (.iconst 2, 1) := by decide +kernel
theorem dX9_isUp_11 : decode cX9_isUp 11 = .ok (.iadd, 1) := by decide +kernel
theorem dX9_isUp_12 : decode cX9_isUp 12 = .ok (.iaload, 1) := by decide +kernel
theorem dX9_isUp_13 : decode cX9_isUp 13 = .ok (.iconst 1, 1) := by decide +kernel
theorem dX9_isUp_14 : decode cX9_isUp 14 = .ok (.if_icmp .ne 7, 3) := by decide +kernel
theorem dX9_isUp_17 : decode cX9_isUp 17 = .ok (.iconst 1, 1) := by decide +kernel
theorem dX9_isUp_18 : decode cX9_isUp 18 = .ok (.goto 4, 3) := by decide +kernel
theorem dX9_isUp_21 : decode cX9_isUp 21 = .ok (.iconst 0, 1) := by decide +kernel
theorem dX9_isUp_22 : decode cX9_isUp 22 = .ok (.ireturn, 1) := by decide +kernel
theorem dX9_ups_0 : decode cX9_ups 0 = .ok (.iconst 0, 1) := by decide +kernel
theorem dX9_ups_1 : decode cX9_ups 1 = .ok (.istore_n 1, 1) := by decide +kernel
theorem dX9_ups_2 : decode cX9_ups 2 = .ok (.iconst 0, 1) := by decide +kernel
theorem dX9_ups_3 : decode cX9_ups 3 = .ok (.istore_n 2, 1) := by decide +kernel
theorem dX9_ups_4 : decode cX9_ups 4 = .ok (.iload_n 2, 1) := by decide +kernel
theorem dX9_ups_5 : decode cX9_ups 5 = .ok (.aload_n 0, 1) := by decide +kernel
theorem dX9_ups_6 : decode cX9_ups 6 = .ok (.getfield 7, 3) := by decide +kernel
theorem dX9_ups_9 : decode cX9_ups 9 = .ok (.bipush 15, 2) := by decide +kernel
theorem dX9_ups_11 : decode cX9_ups 11 = .ok (.iaload, 1) := by decide +kernel
theorem dX9_ups_12 : decode cX9_ups 12 = .ok (.if_icmp .ge 27, 3) := by decide +kernel
theorem dX9_ups_15 : decode cX9_ups 15 = .ok (.iload_n 1, 1) := by decide +kernel
theorem dX9_ups_16 : decode cX9_ups 16 = .ok (.aload_n 0, 1) := by decide +kernel
theorem dX9_ups_17 : decode cX9_ups 17 = .ok (.iload_n 2, 1) := by decide +kernel
theorem dX9_ups_18 : decode cX9_ups 18 = .ok (.invokevirtual 35, 3) := by decide +kernel
theorem dX9_ups_21 : decode cX9_ups 21 = .ok (.ifCond .eq 9, 3) := by decide +kernel
theorem dX9_ups_24 : decode cX9_ups 24 = .ok (.iconst 1, 1) := by decide +kernel
theorem dX9_ups_25 : decode cX9_ups 25 = .ok (.iload_n 2, 1) := by decide +kernel
theorem dX9_ups_26 : decode cX9_ups 26 = .ok (.ishl, 1) := by decide +kernel
theorem dX9_ups_27 : decode cX9_ups 27 = .ok (.goto 4, 3) := by decide +kernel
theorem dX9_ups_30 : decode cX9_ups 30 = .ok (.iconst 0, 1) := by decide +kernel
theorem dX9_ups_31 : decode cX9_ups 31 = .ok (.ior, 1) := by decide +kernel
theorem dX9_ups_32 : decode cX9_ups 32 = .ok (.istore_n 1, 1) := by decide +kernel
theorem dX9_ups_33 : decode cX9_ups 33 = .ok (.iinc 2 1, 3) := by decide +kernel
theorem dX9_ups_36 : decode cX9_ups 36 = .ok (.goto (-32), 3) := by decide +kernel
theorem dX9_ups_39 : decode cX9_ups 39 = .ok (.iload_n 1, 1) := by decide +kernel
theorem dX9_ups_40 : decode cX9_ups 40 = .ok (.ireturn, 1) := by decide +kernel
theorem dX9_available_0 : decode cX9_available 0 = .ok (.iconst 2, 1) := by decide +kernel
theorem dX9_available_1 : decode cX9_available 1 = .ok (.aload_n 0, 1) := by decide +kernel
theorem dX9_available_2 : decode cX9_available 2 = .ok (.iload_n 1, 1) := by decide +kernel
theorem dX9_available_3 : decode cX9_available 3 = .ok (.iconst 1, 1) := by decide +kernel
theorem dX9_available_4 : decode cX9_available 4 = .ok (.invokevirtual 39, 3) := by decide +kernel
theorem dX9_available_7 : decode cX9_available 7 = .ok (.aload_n 0, 1) := by decide +kernel
theorem dX9_available_8 : decode cX9_available 8 = .ok (.invokevirtual 43, 3) := by decide +kernel
theorem dX9_available_11 : decode cX9_available 11 = .ok (.iand, 1) := by decide +kernel
theorem dX9_available_12 : decode cX9_available 12 = .ok (.invokestatic 47, 3) := by decide +kernel
theorem dX9_available_15 : decode cX9_available 15 = .ok (.imul, 1) := by decide +kernel
theorem dX9_available_16 : decode cX9_available 16 = .ok (.aload_n 0, 1) := by decide +kernel
theorem dX9_available_17 : decode cX9_available 17 = .ok (.iload_n 1, 1) := by decide +kernel
theorem dX9_available_18 : decode cX9_available 18 = .ok (.iconst 1, 1) := by decide +kernel
theorem dX9_available_19 : decode cX9_available 19 = .ok (.invokevirtual 39, 3) := by decide +kernel
theorem dX9_available_22 : decode cX9_available 22 = .ok (.invokestatic 47, 3) := by decide +kernel
theorem dX9_available_25 : decode cX9_available 25 = .ok (.if_icmp .le 7, 3) := by decide +kernel
theorem dX9_available_28 : decode cX9_available 28 = .ok (.iconst 1, 1) := by decide +kernel
theorem dX9_available_29 : decode cX9_available 29 = .ok (.goto 4, 3) := by decide +kernel
theorem dX9_available_32 : decode cX9_available 32 = .ok (.iconst 0, 1) := by decide +kernel
theorem dX9_available_33 : decode cX9_available 33 = .ok (.ireturn, 1) := by decide +kernel
theorem dX9_replicasOf_0 : decode cX9_replicasOf 0 = .ok (.iconst 0, 1) := by decide +kernel
theorem dX9_replicasOf_1 : decode cX9_replicasOf 1 = .ok (.istore_n 2, 1) := by decide +kernel
theorem dX9_replicasOf_2 : decode cX9_replicasOf 2 = .ok (.iconst 0, 1) := by decide +kernel
theorem dX9_replicasOf_3 : decode cX9_replicasOf 3 = .ok (.istore_n 3, 1) := by decide +kernel
theorem dX9_replicasOf_4 : decode cX9_replicasOf 4 = .ok (.iload_n 3, 1) := by decide +kernel
theorem dX9_replicasOf_5 : decode cX9_replicasOf 5 = .ok (.aload_n 0, 1) := by decide +kernel
theorem dX9_replicasOf_6 : decode cX9_replicasOf 6 = .ok (.getfield 7, 3) := by decide +kernel
theorem dX9_replicasOf_9 : decode cX9_replicasOf 9 = .ok (.bipush 17, 2) := by decide +kernel
theorem dX9_replicasOf_11 : decode cX9_replicasOf 11 = .ok (.iaload, 1) := by decide +kernel
theorem dX9_replicasOf_12 : decode cX9_replicasOf 12 = .ok (.if_icmp .ge 40, 3) := by decide +kernel
theorem dX9_replicasOf_15 : decode cX9_replicasOf 15 = .ok (.iload_n 2, 1) := by decide +kernel
theorem dX9_replicasOf_16 : decode cX9_replicasOf 16 = .ok (.aload_n 0, 1) := by decide +kernel
theorem dX9_replicasOf_17 : decode cX9_replicasOf 17 = .ok (.iload_n 3, 1) := by decide +kernel
theorem dX9_replicasOf_18 : decode cX9_replicasOf 18 = .ok (.iconst 1, 1) := by decide +kernel
theorem dX9_replicasOf_19 : decode cX9_replicasOf 19 = .ok (.invokevirtual 39, 3) := by decide +kernel
theorem dX9_replicasOf_22 : decode cX9_replicasOf 22 = .ok (.iload_n 1, 1) := by decide +kernel
theorem dX9_replicasOf_23 : decode cX9_replicasOf 23 = .ok (.invokestatic 50, 3) := by decide +kernel
theorem dX9_replicasOf_26 : decode cX9_replicasOf 26 = .ok (.ifCond .ne 13, 3) := by decide +kernel
theorem dX9_replicasOf_29 : decode cX9_replicasOf 29 = .ok (.aload_n 0, 1) := by decide +kernel
theorem dX9_replicasOf_30 : decode cX9_replicasOf 30 = .ok (.iload_n 3, 1) := by decide +kernel
theorem dX9_replicasOf_31 : decode cX9_replicasOf 31 = .ok (.iconst 3, 1) := by decide +kernel
theorem dX9_replicasOf_32 : decode cX9_replicasOf 32 = .ok (.invokevirtual 39, 3) := by decide +kernel
theorem dX9_replicasOf_35 : decode cX9_replicasOf 35 = .ok (.iload_n 1, 1) := by decide +kernel
theorem dX9_replicasOf_36 : decode cX9_replicasOf 36 = .ok (.if_icmp .ne 7, 3) := by decide +kernel
theorem dX9_replicasOf_39 : decode cX9_replicasOf 39 = .ok (.iconst 1, 1) := by decide +kernel
theorem dX9_replicasOf_40 : decode cX9_replicasOf 40 = .ok (.goto 4, 3) := by decide +kernel
theorem dX9_replicasOf_43 : decode cX9_replicasOf 43 = .ok (.iconst 0, 1) := by decide +kernel
theorem dX9_replicasOf_44 : decode cX9_replicasOf 44 = .ok (.iadd, 1) := by decide +kernel
theorem dX9_replicasOf_45 : decode cX9_replicasOf 45 = .ok (.istore_n 2, 1) := by decide +kernel
theorem dX9_replicasOf_46 : decode cX9_replicasOf 46 = .ok (.iinc 3 1, 3) := by decide +kernel
theorem dX9_replicasOf_49 : decode cX9_replicasOf 49 = .ok (.goto (-45), 3) := by decide +kernel
theorem dX9_replicasOf_52 : decode cX9_replicasOf 52 = .ok (.iload_n 2, 1) := by decide +kernel
theorem dX9_replicasOf_53 : decode cX9_replicasOf 53 = .ok (.ireturn, 1) := by decide +kernel
theorem dX9_leads_0 : decode cX9_leads 0 = .ok (.iconst 0, 1) := by decide +kernel
theorem dX9_leads_1 : decode cX9_leads 1 = .ok (.istore_n 3, 1) := by decide +kernel
theorem dX9_leads_2 : decode cX9_leads 2 = .ok (.iconst 0, 1) := by decide +kernel
theorem dX9_leads_3 : decode cX9_leads 3 = .ok (.istore 4, 2) := by decide +kernel
theorem dX9_leads_5 : decode cX9_leads 5 = .ok (.iload 4, 2) := by decide +kernel
theorem dX9_leads_7 : decode cX9_leads 7 = .ok (.aload_n 0, 1) := by decide +kernel
theorem dX9_leads_8 : decode cX9_leads 8 = .ok (.getfield 7, 3) := by decide +kernel
theorem dX9_leads_11 : decode cX9_leads 11 = .ok (.bipush 17, 2) := by decide +kernel
theorem dX9_leads_13 : decode cX9_leads 13 = .ok (.iaload, 1) := by decide +kernel
theorem dX9_leads_14 : decode cX9_leads 14 = .ok (.if_icmp .ge 34, 3) := by decide +kernel
theorem dX9_leads_17 : decode cX9_leads 17 = .ok (.iload_n 3, 1) := by decide +kernel
theorem dX9_leads_18 : decode cX9_leads 18 = .ok (.iload 4, 2) := by decide +kernel
theorem dX9_leads_20 : decode cX9_leads 20 = .ok (.iload_n 2, 1) := by decide +kernel
theorem dX9_leads_21 : decode cX9_leads 21 = .ok (.if_icmp .eq 18, 3) := by decide +kernel
theorem dX9_leads_24 : decode cX9_leads 24 = .ok (.aload_n 0, 1) := by decide +kernel
theorem dX9_leads_25 : decode cX9_leads 25 = .ok (.iload 4, 2) := by decide +kernel
theorem dX9_leads_27 : decode cX9_leads 27 = .ok (.iconst 2, 1) := by decide +kernel
theorem dX9_leads_28 : decode cX9_leads 28 = .ok (.invokevirtual 39, 3) := by decide +kernel
theorem dX9_leads_31 : decode cX9_leads 31 = .ok (.iload_n 1, 1) := by decide +kernel
theorem dX9_leads_32 : decode cX9_leads 32 = .ok (.if_icmp .ne 7, 3) := by decide +kernel
theorem dX9_leads_35 : decode cX9_leads 35 = .ok (.iconst 1, 1) := by decide +kernel
theorem dX9_leads_36 : decode cX9_leads 36 = .ok (.goto 4, 3) := by decide +kernel
theorem dX9_leads_39 : decode cX9_leads 39 = .ok (.iconst 0, 1) := by decide +kernel
theorem dX9_leads_40 : decode cX9_leads 40 = .ok (.iadd, 1) := by decide +kernel
theorem dX9_leads_41 : decode cX9_leads 41 = .ok (.istore_n 3, 1) := by decide +kernel
theorem dX9_leads_42 : decode cX9_leads 42 = .ok (.iinc 4 1, 3) := by decide +kernel
theorem dX9_leads_45 : decode cX9_leads 45 = .ok (.goto (-40), 3) := by decide +kernel
theorem dX9_leads_48 : decode cX9_leads 48 = .ok (.iload_n 3, 1) := by decide +kernel
theorem dX9_leads_49 : decode cX9_leads 49 = .ok (.ireturn, 1) := by decide +kernel
theorem dX9_elect_0 : decode cX9_elect 0 = .ok (.iconst (-1), 1) := by decide +kernel
theorem dX9_elect_1 : decode cX9_elect 1 = .ok (.istore_n 2, 1) := by decide +kernel
theorem dX9_elect_2 : decode cX9_elect 2 = .ok (.aload_n 0, 1) := by decide +kernel
theorem dX9_elect_3 : decode cX9_elect 3 = .ok (.iload_n 1, 1) := by decide +kernel
theorem dX9_elect_4 : decode cX9_elect 4 = .ok (.invokevirtual 54, 3) := by decide +kernel
theorem dX9_elect_7 : decode cX9_elect 7 = .ok (.ifCond .eq 17, 3) := by decide +kernel
theorem dX9_elect_10 : decode cX9_elect 10 = .ok (.aload_n 0, 1) := by decide +kernel
theorem dX9_elect_11 : decode cX9_elect 11 = .ok (.iload_n 1, 1) := by decide +kernel
theorem dX9_elect_12 : decode cX9_elect 12 = .ok (.iconst 1, 1) := by decide +kernel
theorem dX9_elect_13 : decode cX9_elect 13 = .ok (.invokevirtual 39, 3) := by decide +kernel
theorem dX9_elect_16 : decode cX9_elect 16 = .ok (.aload_n 0, 1) := by decide +kernel
theorem dX9_elect_17 : decode cX9_elect 17 = .ok (.invokevirtual 43, 3) := by decide +kernel
theorem dX9_elect_20 : decode cX9_elect 20 = .ok (.iand, 1) := by decide +kernel
theorem dX9_elect_21 : decode cX9_elect 21 = .ok (.goto 4, 3) := by decide +kernel
theorem dX9_elect_24 : decode cX9_elect 24 = .ok (.iconst 0, 1) := by decide +kernel
theorem dX9_elect_25 : decode cX9_elect 25 = .ok (.istore_n 3, 1) := by decide +kernel
theorem dX9_elect_26 : decode cX9_elect 26 = .ok (.iconst 0, 1) := by decide +kernel
theorem dX9_elect_27 : decode cX9_elect 27 = .ok (.istore 4, 2) := by decide +kernel
theorem dX9_elect_29 : decode cX9_elect 29 = .ok (.iload 4, 2) := by decide +kernel
theorem dX9_elect_31 : decode cX9_elect 31 = .ok (.bipush 8, 2) := by decide +kernel
theorem dX9_elect_33 : decode cX9_elect 33 = .ok (.if_icmp .ge 58, 3) := by decide +kernel
theorem dX9_elect_36 : decode cX9_elect 36 = .ok (.iload_n 3, 1) := by decide +kernel
theorem dX9_elect_37 : decode cX9_elect 37 = .ok (.iload 4, 2) := by decide +kernel
theorem dX9_elect_39 : decode cX9_elect 39 = .ok (.invokestatic 50, 3) := by decide +kernel
theorem dX9_elect_42 : decode cX9_elect 42 = .ok (.ifCond .eq 28, 3) := by decide +kernel
theorem dX9_elect_45 : decode cX9_elect 45 = .ok (.iload_n 2, 1) := by decide +kernel
theorem dX9_elect_46 : decode cX9_elect 46 = .ok (.iconst (-1), 1) := by decide +kernel
theorem dX9_elect_47 : decode cX9_elect 47 = .ok (.if_icmp .eq 19, 3) := by decide +kernel
theorem dX9_elect_50 : decode cX9_elect 50 = .ok (.aload_n 0, 1) := by decide +kernel
theorem dX9_elect_51 : decode cX9_elect 51 = .ok (.iload 4, 2) := by decide +kernel
theorem dX9_elect_53 : decode cX9_elect 53 = .ok (.iload_n 1, 1) := by decide +kernel
theorem dX9_elect_54 : decode cX9_elect 54 = .ok (.invokevirtual 57, 3) := by decide +kernel
theorem dX9_elect_57 : decode cX9_elect 57 = .ok (.aload_n 0, 1) := by decide +kernel
theorem dX9_elect_58 : decode cX9_elect 58 = .ok (.iload_n 2, 1) := by decide +kernel
theorem dX9_elect_59 : decode cX9_elect 59 = .ok (.iload_n 1, 1) := by decide +kernel
theorem dX9_elect_60 : decode cX9_elect 60 = .ok (.invokevirtual 57, 3) := by decide +kernel
theorem dX9_elect_63 : decode cX9_elect 63 = .ok (.if_icmp .ge 7, 3) := by decide +kernel
theorem dX9_elect_66 : decode cX9_elect 66 = .ok (.iconst 1, 1) := by decide +kernel
theorem dX9_elect_67 : decode cX9_elect 67 = .ok (.goto 4, 3) := by decide +kernel
theorem dX9_elect_70 : decode cX9_elect 70 = .ok (.iconst 0, 1) := by decide +kernel
theorem dX9_elect_71 : decode cX9_elect 71 = .ok (.istore 5, 2) := by decide +kernel
theorem dX9_elect_73 : decode cX9_elect 73 = .ok (.iload 5, 2) := by decide +kernel
theorem dX9_elect_75 : decode cX9_elect 75 = .ok (.ifCond .eq 8, 3) := by decide +kernel
theorem dX9_elect_78 : decode cX9_elect 78 = .ok (.iload 4, 2) := by decide +kernel
theorem dX9_elect_80 : decode cX9_elect 80 = .ok (.goto 4, 3) := by decide +kernel
theorem dX9_elect_83 : decode cX9_elect 83 = .ok (.iload_n 2, 1) := by decide +kernel
theorem dX9_elect_84 : decode cX9_elect 84 = .ok (.istore_n 2, 1) := by decide +kernel
theorem dX9_elect_85 : decode cX9_elect 85 = .ok (.iinc 4 1, 3) := by decide +kernel
theorem dX9_elect_88 : decode cX9_elect 88 = .ok (.goto (-59), 3) := by decide +kernel
theorem dX9_elect_91 : decode cX9_elect 91 = .ok (.aload_n 0, 1) := by decide +kernel
theorem dX9_elect_92 : decode cX9_elect 92 = .ok (.iload_n 1, 1) := by decide +kernel
theorem dX9_elect_93 : decode cX9_elect 93 = .ok (.iconst 2, 1) := by decide +kernel
theorem dX9_elect_94 : decode cX9_elect 94 = .ok (.iload_n 2, 1) := by decide +kernel
theorem dX9_elect_95 : decode cX9_elect 95 = .ok (.invokevirtual 19, 3) := by decide +kernel
theorem dX9_elect_98 : decode cX9_elect 98 = .ok (.return_, 1) := by decide +kernel
theorem dX9_isFresh_0 : decode cX9_isFresh 0 = .ok (.iconst 1, 1) := by decide +kernel
theorem dX9_isFresh_1 : decode cX9_isFresh 1 = .ok (.istore 4, 2) := by decide +kernel
theorem dX9_isFresh_3 : decode cX9_isFresh 3 = .ok (.iconst 0, 1) := by decide +kernel
theorem dX9_isFresh_4 : decode cX9_isFresh 4 = .ok (.istore 5, 2) := by decide +kernel
theorem dX9_isFresh_6 : decode cX9_isFresh 6 = .ok (.iload 5, 2) := by decide +kernel
theorem dX9_isFresh_8 : decode cX9_isFresh 8 = .ok (.aload_n 0, 1) := by decide +kernel
theorem dX9_isFresh_9 : decode cX9_isFresh 9 = .ok (.getfield 7, 3) := by decide +kernel
theorem dX9_isFresh_12 : decode cX9_isFresh 12 = .ok (.bipush 15, 2) := by decide +kernel
theorem dX9_isFresh_14 : decode cX9_isFresh 14 = .ok (.iaload, 1) := by decide +kernel
theorem dX9_isFresh_15 : decode cX9_isFresh 15 = .ok (.if_icmp .ge 55, 3) := by decide +kernel
theorem dX9_isFresh_18 : decode cX9_isFresh 18 = .ok (.iload 4, 2) := by decide +kernel
theorem dX9_isFresh_20 : decode cX9_isFresh 20 = .ok (.ifCond .eq 41, 3) := by decide +kernel
theorem dX9_isFresh_23 : decode cX9_isFresh 23 = .ok (.aload_n 0, 1) := by decide +kernel
theorem dX9_isFresh_24 : decode cX9_isFresh 24 = .ok (.iload_n 1, 1) := by decide +kernel
theorem dX9_isFresh_25 : decode cX9_isFresh 25 = .ok (.iconst 1, 1) := by decide +kernel
theorem dX9_isFresh_26 : decode cX9_isFresh 26 = .ok (.invokevirtual 39, 3) := by decide +kernel
theorem dX9_isFresh_29 : decode cX9_isFresh 29 = .ok (.iload 5, 2) := by decide +kernel
theorem dX9_isFresh_31 : decode cX9_isFresh 31 = .ok (.invokestatic 50, 3) := by decide +kernel
theorem dX9_isFresh_34 : decode cX9_isFresh 34 = .ok (.ifCond .eq 23, 3) := by decide +kernel
theorem dX9_isFresh_37 : decode cX9_isFresh 37 = .ok (.iload 5, 2) := by decide +kernel
theorem dX9_isFresh_39 : decode cX9_isFresh 39 = .ok (.iload_n 3, 1) := by decide +kernel
theorem dX9_isFresh_40 : decode cX9_isFresh 40 = .ok (.if_icmp .eq 17, 3) := by decide +kernel
theorem dX9_isFresh_43 : decode cX9_isFresh 43 = .ok (.aload_n 0, 1) := by decide +kernel
theorem dX9_isFresh_44 : decode cX9_isFresh 44 = .ok (.iload 5, 2) := by decide +kernel
theorem dX9_isFresh_46 : decode cX9_isFresh 46 = .ok (.invokevirtual 60, 3) := by decide +kernel
theorem dX9_isFresh_49 : decode cX9_isFresh 49 = .ok (.aload_n 0, 1) := by decide +kernel
theorem dX9_isFresh_50 : decode cX9_isFresh 50 = .ok (.iload_n 2, 1) := by decide +kernel
theorem dX9_isFresh_51 : decode cX9_isFresh 51 = .ok (.invokevirtual 60, 3) := by decide +kernel
theorem dX9_isFresh_54 : decode cX9_isFresh 54 = .ok (.if_icmp .eq 7, 3) := by decide +kernel
theorem dX9_isFresh_57 : decode cX9_isFresh 57 = .ok (.iconst 1, 1) := by decide +kernel
theorem dX9_isFresh_58 : decode cX9_isFresh 58 = .ok (.goto 4, 3) := by decide +kernel
theorem dX9_isFresh_61 : decode cX9_isFresh 61 = .ok (.iconst 0, 1) := by decide +kernel
theorem dX9_isFresh_62 : decode cX9_isFresh 62 = .ok (.istore 4, 2) := by decide +kernel
theorem dX9_isFresh_64 : decode cX9_isFresh 64 = .ok (.iinc 5 1, 3) := by decide +kernel
theorem dX9_isFresh_67 : decode cX9_isFresh 67 = .ok (.goto (-61), 3) := by decide +kernel
theorem dX9_isFresh_70 : decode cX9_isFresh 70 = .ok (.iload 4, 2) := by decide +kernel
theorem dX9_isFresh_72 : decode cX9_isFresh 72 = .ok (.ireturn, 1) := by decide +kernel
theorem dX9_choose_0 : decode cX9_choose 0 = .ok (.iconst (-1), 1) := by decide +kernel
theorem dX9_choose_1 : decode cX9_choose 1 = .ok (.istore_n 3, 1) := by decide +kernel
theorem dX9_choose_2 : decode cX9_choose 2 = .ok (.iconst 0, 1) := by decide +kernel
theorem dX9_choose_3 : decode cX9_choose 3 = .ok (.istore 4, 2) := by decide +kernel
theorem dX9_choose_5 : decode cX9_choose 5 = .ok (.iconst 0, 1) := by decide +kernel
theorem dX9_choose_6 : decode cX9_choose 6 = .ok (.istore 5, 2) := by decide +kernel
theorem dX9_choose_8 : decode cX9_choose 8 = .ok (.iload 5, 2) := by decide +kernel
theorem dX9_choose_10 : decode cX9_choose 10 = .ok (.aload_n 0, 1) := by decide +kernel
theorem dX9_choose_11 : decode cX9_choose 11 = .ok (.getfield 7, 3) := by decide +kernel
theorem dX9_choose_14 : decode cX9_choose 14 = .ok (.bipush 15, 2) := by decide +kernel
theorem dX9_choose_16 : decode cX9_choose 16 = .ok (.iaload, 1) := by decide +kernel
theorem dX9_choose_17 : decode cX9_choose 17 = .ok (.if_icmp .ge 123, 3) := by decide +kernel
theorem dX9_choose_20 : decode cX9_choose 20 = .ok (.aload_n 0, 1) := by decide +kernel
theorem dX9_choose_21 : decode cX9_choose 21 = .ok (.iload 5, 2) := by decide +kernel
theorem dX9_choose_23 : decode cX9_choose 23 = .ok (.invokevirtual 63, 3) := by decide +kernel
theorem dX9_choose_26 : decode cX9_choose 26 = .ok (.istore 6, 2) := by decide +kernel
theorem dX9_choose_28 : decode cX9_choose 28 = .ok (.aload_n 0, 1) := by decide +kernel
theorem dX9_choose_29 : decode cX9_choose 29 = .ok (.iload 5, 2) := by decide +kernel
theorem dX9_choose_31 : decode cX9_choose 31 = .ok (.invokevirtual 35, 3) := by decide +kernel
theorem dX9_choose_34 : decode cX9_choose 34 = .ok (.ifCond .eq 51, 3) := by decide +kernel
theorem dX9_choose_37 : decode cX9_choose 37 = .ok (.iload 6, 2) := by decide +kernel
theorem dX9_choose_39 : decode cX9_choose 39 = .ok (.aload_n 0, 1) := by decide +kernel
theorem dX9_choose_40 : decode cX9_choose 40 = .ok (.getfield 7, 3) := by decide +kernel
theorem dX9_choose_43 : decode cX9_choose 43 = .ok (.bipush 19, 2) := by decide +kernel
theorem dX9_choose_45 : decode cX9_choose 45 = .ok (.iconst 3, 1) := by decide +kernel
theorem dX9_choose_46 : decode cX9_choose 46 = .ok (.iload 5, 2) := by decide +kernel
theorem dX9_choose_48 : decode cX9_choose 48 = .ok (.imul, 1) := by decide +kernel
theorem dX9_choose_49 : decode cX9_choose 49 = .ok (.iadd, 1) := by decide +kernel
theorem dX9_choose_50 : decode cX9_choose 50 = .ok (.iconst 1, 1) := by decide +kernel
theorem dX9_choose_51 : decode cX9_choose 51 = .ok (.iadd, 1) := by decide +kernel
theorem dX9_choose_52 : decode cX9_choose 52 = .ok (.iaload, 1) := by decide +kernel
theorem dX9_choose_53 : decode cX9_choose 53 = .ok (.if_icmp .ge 32, 3) := by decide +kernel
theorem dX9_choose_56 : decode cX9_choose 56 = .ok (.aload_n 0, 1) := by decide +kernel
theorem dX9_choose_57 : decode cX9_choose 57 = .ok (.iload_n 1, 1) := by decide +kernel
theorem dX9_choose_58 : decode cX9_choose 58 = .ok (.iconst 1, 1) := by decide +kernel
theorem dX9_choose_59 : decode cX9_choose 59 = .ok (.invokevirtual 39, 3) := by decide +kernel
theorem dX9_choose_62 : decode cX9_choose 62 = .ok (.iload 5, 2) := by decide +kernel
theorem dX9_choose_64 : decode cX9_choose 64 = .ok (.invokestatic 50, 3) := by decide +kernel
theorem dX9_choose_67 : decode cX9_choose 67 = .ok (.ifCond .ne 18, 3) := by decide +kernel
theorem dX9_choose_70 : decode cX9_choose 70 = .ok (.aload_n 0, 1) := by decide +kernel
theorem dX9_choose_71 : decode cX9_choose 71 = .ok (.iload_n 1, 1) := by decide +kernel
theorem dX9_choose_72 : decode cX9_choose 72 = .ok (.iconst 3, 1) := by decide +kernel
theorem dX9_choose_73 : decode cX9_choose 73 = .ok (.invokevirtual 39, 3) := by decide +kernel
theorem dX9_choose_76 : decode cX9_choose 76 = .ok (.iload 5, 2) := by decide +kernel
theorem dX9_choose_78 : decode cX9_choose 78 = .ok (.if_icmp .eq 7, 3) := by decide +kernel
theorem dX9_choose_81 : decode cX9_choose 81 = .ok (.iconst 1, 1) := by decide +kernel
theorem dX9_choose_82 : decode cX9_choose 82 = .ok (.goto 4, 3) := by decide +kernel
theorem dX9_choose_85 : decode cX9_choose 85 = .ok (.iconst 0, 1) := by decide +kernel
theorem dX9_choose_86 : decode cX9_choose 86 = .ok (.istore 7, 2) := by decide +kernel
theorem dX9_choose_88 : decode cX9_choose 88 = .ok (.aload_n 0, 1) := by decide +kernel
theorem dX9_choose_89 : decode cX9_choose 89 = .ok (.iload_n 1, 1) := by decide +kernel
theorem dX9_choose_90 : decode cX9_choose 90 = .ok (.iload 5, 2) := by decide +kernel
theorem dX9_choose_92 : decode cX9_choose 92 = .ok (.iload_n 2, 1) := by decide +kernel
theorem dX9_choose_93 : decode cX9_choose 93 = .ok (.invokevirtual 66, 3) := by decide +kernel
theorem dX9_choose_96 : decode cX9_choose 96 = .ok (.ifCond .eq 7, 3) := by decide +kernel
theorem dX9_choose_99 : decode cX9_choose 99 = .ok (.iconst 0, 1) := by decide +kernel
theorem dX9_choose_100 : decode cX9_choose 100 = .ok (.goto 5, 3) := by decide +kernel
theorem dX9_choose_103 : decode cX9_choose 103 = .ok (.bipush 100, 2) := by decide +kernel
theorem dX9_choose_105 : decode cX9_choose 105 = .ok (.iload 6, 2) := by decide +kernel
theorem dX9_choose_107 : decode cX9_choose 107 = .ok (.iadd, 1) := by decide +kernel
theorem dX9_choose_108 : decode cX9_choose 108 = .ok (.istore 8, 2) := by decide +kernel
theorem dX9_choose_110 : decode cX9_choose 110 = .ok (.iload 7, 2) := by decide +kernel
theorem dX9_choose_112 : decode cX9_choose 112 = .ok (.ifCond .eq 22, 3) := by decide +kernel
theorem dX9_choose_115 : decode cX9_choose 115 = .ok (.iload_n 3, 1) := by decide +kernel
theorem dX9_choose_116 : decode cX9_choose 116 = .ok (.iconst (-1), 1) := by decide +kernel
theorem dX9_choose_117 : decode cX9_choose 117 = .ok (.if_icmp .eq 10, 3) := by decide +kernel
theorem dX9_choose_120 : decode cX9_choose 120 = .ok (.iload 8, 2) := by decide +kernel
theorem dX9_choose_122 : decode cX9_choose 122 = .ok (.iload 4, 2) := by decide +kernel
theorem dX9_choose_124 : decode cX9_choose 124 = .ok (.if_icmp .ge 10, 3) := by decide +kernel
theorem dX9_choose_127 : decode cX9_choose 127 = .ok (.iload 5, 2) := by decide +kernel
theorem dX9_choose_129 : decode cX9_choose 129 = .ok (.istore_n 3, 1) := by decide +kernel
theorem dX9_choose_130 : decode cX9_choose 130 = .ok (.iload 8, 2) := by decide +kernel
theorem dX9_choose_132 : decode cX9_choose 132 = .ok (.istore 4, 2) := by decide +kernel
theorem dX9_choose_134 : decode cX9_choose 134 = .ok (.iinc 5 1, 3) := by decide +kernel
theorem dX9_choose_137 : decode cX9_choose 137 = .ok (.goto (-129), 3) := by decide +kernel
theorem dX9_choose_140 : decode cX9_choose 140 = .ok (.iload_n 3, 1) := by decide +kernel
theorem dX9_choose_141 : decode cX9_choose 141 = .ok (.ireturn, 1) := by decide +kernel
theorem dX9_end_0 : decode cX9_end 0 = .ok (.iload_n 1, 1) := by decide +kernel
theorem dX9_end_1 : decode cX9_end 1 = .ok (.iconst 1, 1) := by decide +kernel
theorem dX9_end_2 : decode cX9_end 2 = .ok (.iadd, 1) := by decide +kernel
theorem dX9_end_3 : decode cX9_end 3 = .ok (.aload_n 0, 1) := by decide +kernel
theorem dX9_end_4 : decode cX9_end 4 = .ok (.getfield 7, 3) := by decide +kernel
theorem dX9_end_7 : decode cX9_end 7 = .ok (.bipush 17, 2) := by decide +kernel
theorem dX9_end_9 : decode cX9_end 9 = .ok (.iaload, 1) := by decide +kernel
theorem dX9_end_10 : decode cX9_end 10 = .ok (.if_icmp .ge 16, 3) := by decide +kernel
theorem dX9_end_13 : decode cX9_end 13 = .ok (.aload_n 0, 1) := by decide +kernel
theorem dX9_end_14 : decode cX9_end 14 = .ok (.iload_n 1, 1) := by decide +kernel
theorem dX9_end_15 : decode cX9_end 15 = .ok (.iconst 1, 1) := by decide +kernel
theorem dX9_end_16 : decode cX9_end 16 = .ok (.iadd, 1) := by decide +kernel
theorem dX9_end_17 : decode cX9_end 17 = .ok (.iconst 0, 1) := by decide +kernel
theorem dX9_end_18 : decode cX9_end 18 = .ok (.invokevirtual 39, 3) := by decide +kernel
theorem dX9_end_21 : decode cX9_end 21 = .ok (.iconst 1, 1) := by decide +kernel
theorem dX9_end_22 : decode cX9_end 22 = .ok (.isub, 1) := by decide +kernel
theorem dX9_end_23 : decode cX9_end 23 = .ok (.goto 6, 3) := by decide +kernel
theorem dX9_end_26 : decode cX9_end 26 = .ok (.sipush 9999, 3) := by decide +kernel
theorem dX9_end_29 : decode cX9_end 29 = .ok (.ireturn, 1) := by decide +kernel
theorem dX9_isIn_0 : decode cX9_isIn 0 = .ok (.iload_n 1, 1) := by decide +kernel
theorem dX9_isIn_1 : decode cX9_isIn 1 = .ok (.aload_n 0, 1) := by decide +kernel
theorem dX9_isIn_2 : decode cX9_isIn 2 = .ok (.iload_n 2, 1) := by decide +kernel
theorem dX9_isIn_3 : decode cX9_isIn 3 = .ok (.iconst 0, 1) := by decide +kernel
theorem dX9_isIn_4 : decode cX9_isIn 4 = .ok (.invokevirtual 39, 3) := by decide +kernel
theorem dX9_isIn_7 : decode cX9_isIn 7 = .ok (.aload_n 0, 1) := by decide +kernel
theorem dX9_isIn_8 : decode cX9_isIn 8 = .ok (.iload_n 2, 1) := by decide +kernel
theorem dX9_isIn_9 : decode cX9_isIn 9 = .ok (.invokevirtual 69, 3) := by decide +kernel
theorem dX9_isIn_12 : decode cX9_isIn 12 = .ok (.invokestatic 31, 3) := by decide +kernel
theorem dX9_isIn_15 : decode cX9_isIn 15 = .ok (.ireturn, 1) := by decide +kernel
theorem dX9_placeOf_0 : decode cX9_placeOf 0 = .ok (.iconst 0, 1) := by decide +kernel
theorem dX9_placeOf_1 : decode cX9_placeOf 1 = .ok (.istore_n 2, 1) := by decide +kernel
theorem dX9_placeOf_2 : decode cX9_placeOf 2 = .ok (.iload_n 2, 1) := by decide +kernel
theorem dX9_placeOf_3 : decode cX9_placeOf 3 = .ok (.aload_n 0, 1) := by decide +kernel
theorem dX9_placeOf_4 : decode cX9_placeOf 4 = .ok (.getfield 7, 3) := by decide +kernel
theorem dX9_placeOf_7 : decode cX9_placeOf 7 = .ok (.bipush 16, 2) := by decide +kernel
theorem dX9_placeOf_9 : decode cX9_placeOf 9 = .ok (.iaload, 1) := by decide +kernel
theorem dX9_placeOf_10 : decode cX9_placeOf 10 = .ok (.if_icmp .ge 31, 3) := by decide +kernel
theorem dX9_placeOf_13 : decode cX9_placeOf 13 = .ok (.aload_n 0, 1) := by decide +kernel
theorem dX9_placeOf_14 : decode cX9_placeOf 14 = .ok (.getfield 7, 3) := by decide +kernel
theorem dX9_placeOf_17 : decode cX9_placeOf 17 = .ok (.bipush 43, 2) := by decide +kernel
theorem dX9_placeOf_19 : decode cX9_placeOf 19 = .ok (.iconst 2, 1) := by decide +kernel
theorem dX9_placeOf_20 : decode cX9_placeOf 20 = .ok (.iload_n 2, 1) := by decide +kernel
theorem dX9_placeOf_21 : decode cX9_placeOf 21 = .ok (.imul, 1) := by decide +kernel
theorem dX9_placeOf_22 : decode cX9_placeOf 22 = .ok (.iadd, 1) := by decide +kernel
theorem dX9_placeOf_23 : decode cX9_placeOf 23 = .ok (.iaload, 1) := by decide +kernel
theorem dX9_placeOf_24 : decode cX9_placeOf 24 = .ok (.iload_n 1, 1) := by decide +kernel
theorem dX9_placeOf_25 : decode cX9_placeOf 25 = .ok (.if_icmp .ne 10, 3) := by decide +kernel
theorem dX9_placeOf_28 : decode cX9_placeOf 28 = .ok (.bipush 43, 2) := by decide +kernel
theorem dX9_placeOf_30 : decode cX9_placeOf 30 = .ok (.iconst 2, 1) := by decide +kernel
theorem dX9_placeOf_31 : decode cX9_placeOf 31 = .ok (.iload_n 2, 1) := by decide +kernel
theorem dX9_placeOf_32 : decode cX9_placeOf 32 = .ok (.imul, 1) := by decide +kernel
theorem dX9_placeOf_33 : decode cX9_placeOf 33 = .ok (.iadd, 1) := by decide +kernel
theorem dX9_placeOf_34 : decode cX9_placeOf 34 = .ok (.ireturn, 1) := by decide +kernel
theorem dX9_placeOf_35 : decode cX9_placeOf 35 = .ok (.iinc 2 1, 3) := by decide +kernel
theorem dX9_placeOf_38 : decode cX9_placeOf 38 = .ok (.goto (-36), 3) := by decide +kernel
theorem dX9_placeOf_41 : decode cX9_placeOf 41 = .ok (.iconst (-1), 1) := by decide +kernel
theorem dX9_placeOf_42 : decode cX9_placeOf 42 = .ok (.ireturn, 1) := by decide +kernel
theorem dX9_below_0 : decode cX9_below 0 = .ok (.iconst 0, 1) := by decide +kernel
theorem dX9_below_1 : decode cX9_below 1 = .ok (.istore 4, 2) := by decide +kernel
theorem dX9_below_3 : decode cX9_below 3 = .ok (.aload_n 0, 1) := by decide +kernel
theorem dX9_below_4 : decode cX9_below 4 = .ok (.getfield 7, 3) := by decide +kernel
theorem dX9_below_7 : decode cX9_below 7 = .ok (.iload_n 3, 1) := by decide +kernel
theorem dX9_below_8 : decode cX9_below 8 = .ok (.ifCond .ne 8, 3) := by decide +kernel
theorem dX9_below_11 : decode cX9_below 11 = .ok (.bipush 16, 2) := by decide +kernel
theorem dX9_below_13 : decode cX9_below 13 = .ok (.goto 5, 3) := by decide +kernel
theorem dX9_below_16 : decode cX9_below 16 = .ok (.bipush 18, 2) := by decide +kernel
theorem dX9_below_18 : decode cX9_below 18 = .ok (.iaload, 1) := by decide +kernel
theorem dX9_below_19 : decode cX9_below 19 = .ok (.istore 5, 2) := by decide +kernel
theorem dX9_below_21 : decode cX9_below 21 = .ok (.iconst 0, 1) := by decide +kernel
theorem dX9_below_22 : decode cX9_below 22 = .ok (.istore 6, 2) := by decide +kernel
theorem dX9_below_24 : decode cX9_below 24 = .ok (.iload 6, 2) := by decide +kernel
theorem dX9_below_26 : decode cX9_below 26 = .ok (.iload 5, 2) := by decide +kernel
theorem dX9_below_28 : decode cX9_below 28 = .ok (.if_icmp .ge 88, 3) := by decide +kernel
theorem dX9_below_31 : decode cX9_below 31 = .ok (.iload_n 3, 1) := by decide +kernel
theorem dX9_below_32 : decode cX9_below 32 = .ok (.ifCond .ne 18, 3) := by decide +kernel
theorem dX9_below_35 : decode cX9_below 35 = .ok (.aload_n 0, 1) := by decide +kernel
theorem dX9_below_36 : decode cX9_below 36 = .ok (.getfield 7, 3) := by decide +kernel
theorem dX9_below_39 : decode cX9_below 39 = .ok (.bipush 43, 2) := by decide +kernel
theorem dX9_below_41 : decode cX9_below 41 = .ok (.iconst 2, 1) := by decide +kernel
theorem dX9_below_42 : decode cX9_below 42 = .ok (.iload 6, 2) := by decide +kernel
theorem dX9_below_44 : decode cX9_below 44 = .ok (.imul, 1) := by decide +kernel
theorem dX9_below_45 : decode cX9_below 45 = .ok (.iadd, 1) := by decide +kernel
theorem dX9_below_46 : decode cX9_below 46 = .ok (.iaload, 1) := by decide +kernel
theorem dX9_below_47 : decode cX9_below 47 = .ok (.goto 14, 3) := by decide +kernel
theorem dX9_below_50 : decode cX9_below 50 = .ok (.aload_n 0, 1) := by decide +kernel
theorem dX9_below_51 : decode cX9_below 51 = .ok (.getfield 7, 3) := by decide +kernel
theorem dX9_below_54 : decode cX9_below 54 = .ok (.sipush 267, 3) := by decide +kernel
theorem dX9_below_57 : decode cX9_below 57 = .ok (.iload 6, 2) := by decide +kernel
theorem dX9_below_59 : decode cX9_below 59 = .ok (.iadd, 1) := by decide +kernel
theorem dX9_below_60 : decode cX9_below 60 = .ok (.iaload, 1) := by decide +kernel
theorem dX9_below_61 : decode cX9_below 61 = .ok (.istore 7, 2) := by decide +kernel
theorem dX9_below_63 : decode cX9_below 63 = .ok (.iload 4, 2) := by decide +kernel
theorem dX9_below_65 : decode cX9_below 65 = .ok (.aload_n 0, 1) := by decide +kernel
theorem dX9_below_66 : decode cX9_below 66 = .ok (.iload 7, 2) := by decide +kernel
theorem dX9_below_68 : decode cX9_below 68 = .ok (.iload_n 1, 1) := by decide +kernel
theorem dX9_below_69 : decode cX9_below 69 = .ok (.invokevirtual 72, 3) := by decide +kernel
theorem dX9_below_72 : decode cX9_below 72 = .ok (.ifCond .eq 34, 3) := by decide +kernel
theorem dX9_below_75 : decode cX9_below 75 = .ok (.iload 7, 2) := by decide +kernel
theorem dX9_below_77 : decode cX9_below 77 = .ok (.iload_n 2, 1) := by decide +kernel
theorem dX9_below_78 : decode cX9_below 78 = .ok (.if_icmp .ge 28, 3) := by decide +kernel
theorem dX9_below_81 : decode cX9_below 81 = .ok (.iload_n 3, 1) := by decide +kernel
theorem dX9_below_82 : decode cX9_below 82 = .ok (.ifCond .ne 20, 3) := by decide +kernel
theorem dX9_below_85 : decode cX9_below 85 = .ok (.aload_n 0, 1) := by decide +kernel
theorem dX9_below_86 : decode cX9_below 86 = .ok (.getfield 7, 3) := by decide +kernel
theorem dX9_below_89 : decode cX9_below 89 = .ok (.bipush 43, 2) := by decide +kernel
theorem dX9_below_91 : decode cX9_below 91 = .ok (.iconst 2, 1) := by decide +kernel
theorem dX9_below_92 : decode cX9_below 92 = .ok (.iload 6, 2) := by decide +kernel
theorem dX9_below_94 : decode cX9_below 94 = .ok (.imul, 1) := by decide +kernel
theorem dX9_below_95 : decode cX9_below 95 = .ok (.iadd, 1) := by decide +kernel
theorem dX9_below_96 : decode cX9_below 96 = .ok (.iconst 1, 1) := by decide +kernel
theorem dX9_below_97 : decode cX9_below 97 = .ok (.iadd, 1) := by decide +kernel
theorem dX9_below_98 : decode cX9_below 98 = .ok (.iaload, 1) := by decide +kernel
theorem dX9_below_99 : decode cX9_below 99 = .ok (.goto 8, 3) := by decide +kernel
theorem dX9_below_102 : decode cX9_below 102 = .ok (.iconst 1, 1) := by decide +kernel
theorem dX9_below_103 : decode cX9_below 103 = .ok (.goto 4, 3) := by decide +kernel
theorem dX9_below_106 : decode cX9_below 106 = .ok (.iconst 0, 1) := by decide +kernel
theorem dX9_below_107 : decode cX9_below 107 = .ok (.iadd, 1) := by decide +kernel
theorem dX9_below_108 : decode cX9_below 108 = .ok (.istore 4, 2) := by decide +kernel
theorem dX9_below_110 : decode cX9_below 110 = .ok (.iinc 6 1, 3) := by decide +kernel
theorem dX9_below_113 : decode cX9_below 113 = .ok (.goto (-89), 3) := by decide +kernel
theorem dX9_below_116 : decode cX9_below 116 = .ok (.iload 4, 2) := by decide +kernel
theorem dX9_below_118 : decode cX9_below 118 = .ok (.ireturn, 1) := by decide +kernel
theorem dX9_all_0 : decode cX9_all 0 = .ok (.aload_n 0, 1) := by decide +kernel
theorem dX9_all_1 : decode cX9_all 1 = .ok (.iload_n 1, 1) := by decide +kernel
theorem dX9_all_2 : decode cX9_all 2 = .ok (.sipush 10000, 3) := by decide +kernel
theorem dX9_all_5 : decode cX9_all 5 = .ok (.iload_n 2, 1) := by decide +kernel
theorem dX9_all_6 : decode cX9_all 6 = .ok (.invokevirtual 75, 3) := by decide +kernel
theorem dX9_all_9 : decode cX9_all 9 = .ok (.ireturn, 1) := by decide +kernel
theorem dX9_splitKeyOf_0 : decode cX9_splitKeyOf 0 = .ok (.iconst (-1), 1) := by decide +kernel
theorem dX9_splitKeyOf_1 : decode cX9_splitKeyOf 1 = .ok (.istore_n 3, 1) := by decide +kernel
theorem dX9_splitKeyOf_2 : decode cX9_splitKeyOf 2 = .ok (.iconst (-1), 1) := by decide +kernel
theorem dX9_splitKeyOf_3 : decode cX9_splitKeyOf 3 = .ok (.istore 4, 2) := by decide +kernel
theorem dX9_splitKeyOf_5 : decode cX9_splitKeyOf 5 = .ok (.aload_n 0, 1) := by decide +kernel
theorem dX9_splitKeyOf_6 : decode cX9_splitKeyOf 6 = .ok (.getfield 7, 3) := by decide +kernel
theorem dX9_splitKeyOf_9 : decode cX9_splitKeyOf 9 = .ok (.iload_n 2, 1) := by decide +kernel
theorem dX9_splitKeyOf_10 : decode cX9_splitKeyOf 10 = .ok (.ifCond .ne 8, 3) := by decide +kernel
theorem dX9_splitKeyOf_13 : decode cX9_splitKeyOf 13 = .ok (.bipush 16, 2) := by decide +kernel
theorem dX9_splitKeyOf_15 : decode cX9_splitKeyOf 15 = .ok (.goto 5, 3) := by decide +kernel
theorem dX9_splitKeyOf_18 : decode cX9_splitKeyOf 18 = .ok (.bipush 18, 2) := by decide +kernel
theorem dX9_splitKeyOf_20 : decode cX9_splitKeyOf 20 = .ok (.iaload, 1) := by decide +kernel
theorem dX9_splitKeyOf_21 : decode cX9_splitKeyOf 21 = .ok (.istore 5, 2) := by decide +kernel
theorem dX9_splitKeyOf_23 : decode cX9_splitKeyOf 23 = .ok (.iconst 0, 1) := by decide +kernel
theorem dX9_splitKeyOf_24 : decode cX9_splitKeyOf 24 = .ok (.istore 6, 2) := by decide +kernel
theorem dX9_splitKeyOf_26 : decode cX9_splitKeyOf 26 = .ok (.iload 6, 2) := by decide +kernel
theorem dX9_splitKeyOf_28 : decode cX9_splitKeyOf 28 = .ok (.iload 5, 2) := by decide +kernel
theorem dX9_splitKeyOf_30 : decode cX9_splitKeyOf 30 = .ok (.if_icmp .ge 85, 3) := by decide +kernel
theorem dX9_splitKeyOf_33 : decode cX9_splitKeyOf 33 = .ok (.iload_n 2, 1) := by decide +kernel
theorem dX9_splitKeyOf_34 : decode cX9_splitKeyOf 34 = .ok (.ifCond .ne 18, 3) := by decide +kernel
theorem dX9_splitKeyOf_37 : decode cX9_splitKeyOf 37 = .ok (.aload_n 0, 1) := by decide +kernel
theorem dX9_splitKeyOf_38 : decode cX9_splitKeyOf 38 = .ok (.getfield 7, 3) := by decide +kernel
theorem dX9_splitKeyOf_41 : decode cX9_splitKeyOf 41 = .ok (.bipush 43, 2) := by decide +kernel
theorem dX9_splitKeyOf_43 : decode cX9_splitKeyOf 43 = .ok (.iconst 2, 1) := by decide +kernel
theorem dX9_splitKeyOf_44 : decode cX9_splitKeyOf 44 = .ok (.iload 6, 2) := by decide +kernel
theorem dX9_splitKeyOf_46 : decode cX9_splitKeyOf 46 = .ok (.imul, 1) := by decide +kernel
theorem dX9_splitKeyOf_47 : decode cX9_splitKeyOf 47 = .ok (.iadd, 1) := by decide +kernel
theorem dX9_splitKeyOf_48 : decode cX9_splitKeyOf 48 = .ok (.iaload, 1) := by decide +kernel
theorem dX9_splitKeyOf_49 : decode cX9_splitKeyOf 49 = .ok (.goto 14, 3) := by decide +kernel
theorem dX9_splitKeyOf_52 : decode cX9_splitKeyOf 52 = .ok (.aload_n 0, 1) := by decide +kernel
theorem dX9_splitKeyOf_53 : decode cX9_splitKeyOf 53 = .ok (.getfield 7, 3) := by decide +kernel
theorem dX9_splitKeyOf_56 : decode cX9_splitKeyOf 56 = .ok (.sipush 267, 3) := by decide +kernel
theorem dX9_splitKeyOf_59 : decode cX9_splitKeyOf 59 = .ok (.iload 6, 2) := by decide +kernel
theorem dX9_splitKeyOf_61 : decode cX9_splitKeyOf 61 = .ok (.iadd, 1) := by decide +kernel
theorem dX9_splitKeyOf_62 : decode cX9_splitKeyOf 62 = .ok (.iaload, 1) := by decide +kernel
theorem dX9_splitKeyOf_63 : decode cX9_splitKeyOf 63 = .ok (.istore 7, 2) := by decide +kernel
theorem dX9_splitKeyOf_65 : decode cX9_splitKeyOf 65 = .ok (.aload_n 0, 1) := by decide +kernel
theorem dX9_splitKeyOf_66 : decode cX9_splitKeyOf 66 = .ok (.iload 7, 2) := by decide +kernel
theorem dX9_splitKeyOf_68 : decode cX9_splitKeyOf 68 = .ok (.iload_n 1, 1) := by decide +kernel
theorem dX9_splitKeyOf_69 : decode cX9_splitKeyOf 69 = .ok (.invokevirtual 72, 3) := by decide +kernel
theorem dX9_splitKeyOf_72 : decode cX9_splitKeyOf 72 = .ok (.ifCond .eq 37, 3) := by decide +kernel
theorem dX9_splitKeyOf_75 : decode cX9_splitKeyOf 75 = .ok (.iload_n 3, 1) := by decide +kernel
theorem dX9_splitKeyOf_76 : decode cX9_splitKeyOf 76 = .ok (.iconst (-1), 1) := by decide +kernel
theorem dX9_splitKeyOf_77 : decode cX9_splitKeyOf 77 = .ok (.if_icmp .eq 9, 3) := by decide +kernel
theorem dX9_splitKeyOf_80 : decode cX9_splitKeyOf 80 = .ok (.iload 7, 2) := by decide +kernel
theorem dX9_splitKeyOf_82 : decode cX9_splitKeyOf 82 = .ok (.iload_n 3, 1) := by decide +kernel
theorem dX9_splitKeyOf_83 : decode cX9_splitKeyOf 83 = .ok (.if_icmp .ge 8, 3) := by decide +kernel
theorem dX9_splitKeyOf_86 : decode cX9_splitKeyOf 86 = .ok (.iload 7, 2) := by decide +kernel
theorem dX9_splitKeyOf_88 : decode cX9_splitKeyOf 88 = .ok (.goto 4, 3) := by decide +kernel
theorem dX9_splitKeyOf_91 : decode cX9_splitKeyOf 91 = .ok (.iload_n 3, 1) := by decide +kernel
theorem dX9_splitKeyOf_92 : decode cX9_splitKeyOf 92 = .ok (.istore_n 3, 1) := by decide +kernel
theorem dX9_splitKeyOf_93 : decode cX9_splitKeyOf 93 = .ok (.iload 7, 2) := by decide +kernel
theorem dX9_splitKeyOf_95 : decode cX9_splitKeyOf 95 = .ok (.iload 4, 2) := by decide +kernel
theorem dX9_splitKeyOf_97 : decode cX9_splitKeyOf 97 = .ok (.if_icmp .le 8, 3) := by decide +kernel
theorem dX9_splitKeyOf_100 : decode cX9_splitKeyOf 100 = .ok (.iload 7, 2) := by decide +kernel
theorem dX9_splitKeyOf_102 : decode cX9_splitKeyOf 102 = .ok (.goto 5, 3) := by decide +kernel
theorem dX9_splitKeyOf_105 : decode cX9_splitKeyOf 105 = .ok (.iload 4, 2) := by decide +kernel
theorem dX9_splitKeyOf_107 : decode cX9_splitKeyOf 107 = .ok (.istore 4, 2) := by decide +kernel
theorem dX9_splitKeyOf_109 : decode cX9_splitKeyOf 109 = .ok (.iinc 6 1, 3) := by decide +kernel
theorem dX9_splitKeyOf_112 : decode cX9_splitKeyOf 112 = .ok (.goto (-86), 3) := by decide +kernel
theorem dX9_splitKeyOf_115 : decode cX9_splitKeyOf 115 = .ok (.iload_n 3, 1) := by decide +kernel
theorem dX9_splitKeyOf_116 : decode cX9_splitKeyOf 116 = .ok (.iload 4, 2) := by decide +kernel
theorem dX9_splitKeyOf_118 : decode cX9_splitKeyOf 118 = .ok (.if_icmp .ne 5, 3) := by decide +kernel
theorem dX9_splitKeyOf_121 : decode cX9_splitKeyOf 121 = .ok (.iconst (-1), 1) := by decide +kernel
theorem dX9_splitKeyOf_122 : decode cX9_splitKeyOf 122 = .ok (.ireturn, 1) := by decide +kernel
theorem dX9_splitKeyOf_123 : decode cX9_splitKeyOf 123 = .ok (.iload 4, 2) := by decide +kernel
theorem dX9_splitKeyOf_125 : decode cX9_splitKeyOf 125 = .ok (.istore 6, 2) := by decide +kernel
theorem dX9_splitKeyOf_127 : decode cX9_splitKeyOf 127 = .ok (.aload_n 0, 1) := by decide +kernel
theorem dX9_splitKeyOf_128 : decode cX9_splitKeyOf 128 = .ok (.iload_n 1, 1) := by decide +kernel
theorem dX9_splitKeyOf_129 : decode cX9_splitKeyOf 129 = .ok (.iload_n 2, 1) := by decide +kernel
theorem dX9_splitKeyOf_130 : decode cX9_splitKeyOf 130 = .ok (.invokevirtual 79, 3) := by decide +kernel
theorem dX9_splitKeyOf_133 : decode cX9_splitKeyOf 133 = .ok (.istore 7, 2) := by decide +kernel
theorem dX9_splitKeyOf_135 : decode cX9_splitKeyOf 135 = .ok (.iconst 0, 1) := by decide +kernel
theorem dX9_splitKeyOf_136 : decode cX9_splitKeyOf 136 = .ok (.istore 8, 2) := by decide +kernel
theorem dX9_splitKeyOf_138 : decode cX9_splitKeyOf 138 = .ok (.iload 8, 2) := by decide +kernel
theorem dX9_splitKeyOf_140 : decode cX9_splitKeyOf 140 = .ok (.iload 5, 2) := by decide +kernel
theorem dX9_splitKeyOf_142 : decode cX9_splitKeyOf 142 = .ok (.if_icmp .ge 100, 3) := by decide +kernel
theorem dX9_splitKeyOf_145 : decode cX9_splitKeyOf 145 = .ok (.iload_n 2, 1) := by decide +kernel
theorem dX9_splitKeyOf_146 : decode cX9_splitKeyOf 146 = .ok (.ifCond .ne 18, 3) := by decide +kernel
theorem dX9_splitKeyOf_149 : decode cX9_splitKeyOf 149 = .ok (.aload_n 0, 1) := by decide +kernel
theorem dX9_splitKeyOf_150 : decode cX9_splitKeyOf 150 = .ok (.getfield 7, 3) := by decide +kernel
theorem dX9_splitKeyOf_153 : decode cX9_splitKeyOf 153 = .ok (.bipush 43, 2) := by decide +kernel
theorem dX9_splitKeyOf_155 : decode cX9_splitKeyOf 155 = .ok (.iconst 2, 1) := by decide +kernel
theorem dX9_splitKeyOf_156 : decode cX9_splitKeyOf 156 = .ok (.iload 8, 2) := by decide +kernel
theorem dX9_splitKeyOf_158 : decode cX9_splitKeyOf 158 = .ok (.imul, 1) := by decide +kernel
theorem dX9_splitKeyOf_159 : decode cX9_splitKeyOf 159 = .ok (.iadd, 1) := by decide +kernel
theorem dX9_splitKeyOf_160 : decode cX9_splitKeyOf 160 = .ok (.iaload, 1) := by decide +kernel
theorem dX9_splitKeyOf_161 : decode cX9_splitKeyOf 161 = .ok (.goto 14, 3) := by decide +kernel
theorem dX9_splitKeyOf_164 : decode cX9_splitKeyOf 164 = .ok (.aload_n 0, 1) := by decide +kernel
theorem dX9_splitKeyOf_165 : decode cX9_splitKeyOf 165 = .ok (.getfield 7, 3) := by decide +kernel
theorem dX9_splitKeyOf_168 : decode cX9_splitKeyOf 168 = .ok (.sipush 267, 3) := by decide +kernel
theorem dX9_splitKeyOf_171 : decode cX9_splitKeyOf 171 = .ok (.iload 8, 2) := by decide +kernel
theorem dX9_splitKeyOf_173 : decode cX9_splitKeyOf 173 = .ok (.iadd, 1) := by decide +kernel
theorem dX9_splitKeyOf_174 : decode cX9_splitKeyOf 174 = .ok (.iaload, 1) := by decide +kernel
theorem dX9_splitKeyOf_175 : decode cX9_splitKeyOf 175 = .ok (.istore 9, 2) := by decide +kernel
theorem dX9_splitKeyOf_177 : decode cX9_splitKeyOf 177 = .ok (.aload_n 0, 1) := by decide +kernel
theorem dX9_splitKeyOf_178 : decode cX9_splitKeyOf 178 = .ok (.iload 9, 2) := by decide +kernel
theorem dX9_splitKeyOf_180 : decode cX9_splitKeyOf 180 = .ok (.iload_n 1, 1) := by decide +kernel
theorem dX9_splitKeyOf_181 : decode cX9_splitKeyOf 181 = .ok (.invokevirtual 72, 3) := by decide +kernel
theorem dX9_splitKeyOf_184 : decode cX9_splitKeyOf 184 = .ok (.ifCond .eq 35, 3) := by decide +kernel
theorem dX9_splitKeyOf_187 : decode cX9_splitKeyOf 187 = .ok (.iload 9, 2) := by decide +kernel
theorem dX9_splitKeyOf_189 : decode cX9_splitKeyOf 189 = .ok (.iload_n 3, 1) := by decide +kernel
theorem dX9_splitKeyOf_190 : decode cX9_splitKeyOf 190 = .ok (.if_icmp .eq 29, 3) := by decide +kernel
theorem dX9_splitKeyOf_193 : decode cX9_splitKeyOf 193 = .ok (.iload 9, 2) := by decide +kernel
theorem dX9_splitKeyOf_195 : decode cX9_splitKeyOf 195 = .ok (.iload 6, 2) := by decide +kernel
theorem dX9_splitKeyOf_197 : decode cX9_splitKeyOf 197 = .ok (.if_icmp .ge 22, 3) := by decide +kernel
theorem dX9_splitKeyOf_200 : decode cX9_splitKeyOf 200 = .ok (.iconst 2, 1) := by decide +kernel
theorem dX9_splitKeyOf_201 : decode cX9_splitKeyOf 201 = .ok (.aload_n 0, 1) := by decide +kernel
theorem dX9_splitKeyOf_202 : decode cX9_splitKeyOf 202 = .ok (.iload_n 1, 1) := by decide +kernel
theorem dX9_splitKeyOf_203 : decode cX9_splitKeyOf 203 = .ok (.iload 9, 2) := by decide +kernel
theorem dX9_splitKeyOf_205 : decode cX9_splitKeyOf 205 = .ok (.iload_n 2, 1) := by decide +kernel
theorem dX9_splitKeyOf_206 : decode cX9_splitKeyOf 206 = .ok (.invokevirtual 75, 3) := by decide +kernel
theorem dX9_splitKeyOf_209 : decode cX9_splitKeyOf 209 = .ok (.imul, 1) := by decide +kernel
theorem dX9_splitKeyOf_210 : decode cX9_splitKeyOf 210 = .ok (.iload 7, 2) := by decide +kernel
theorem dX9_splitKeyOf_212 : decode cX9_splitKeyOf 212 = .ok (.if_icmp .lt 7, 3) := by decide +kernel
theorem dX9_splitKeyOf_215 : decode cX9_splitKeyOf 215 = .ok (.iconst 1, 1) := by decide +kernel
theorem dX9_splitKeyOf_216 : decode cX9_splitKeyOf 216 = .ok (.goto 4, 3) := by decide +kernel
theorem dX9_splitKeyOf_219 : decode cX9_splitKeyOf 219 = .ok (.iconst 0, 1) := by decide +kernel
theorem dX9_splitKeyOf_220 : decode cX9_splitKeyOf 220 = .ok (.istore 10, 2) := by decide +kernel
theorem dX9_splitKeyOf_222 : decode cX9_splitKeyOf 222 = .ok (.iload 10, 2) := by decide +kernel
theorem dX9_splitKeyOf_224 : decode cX9_splitKeyOf 224 = .ok (.ifCond .eq 8, 3) := by decide +kernel
theorem dX9_splitKeyOf_227 : decode cX9_splitKeyOf 227 = .ok (.iload 9, 2) := by decide +kernel
theorem dX9_splitKeyOf_229 : decode cX9_splitKeyOf 229 = .ok (.goto 5, 3) := by decide +kernel
theorem dX9_splitKeyOf_232 : decode cX9_splitKeyOf 232 = .ok (.iload 6, 2) := by decide +kernel
theorem dX9_splitKeyOf_234 : decode cX9_splitKeyOf 234 = .ok (.istore 6, 2) := by decide +kernel
theorem dX9_splitKeyOf_236 : decode cX9_splitKeyOf 236 = .ok (.iinc 8 1, 3) := by decide +kernel
theorem dX9_splitKeyOf_239 : decode cX9_splitKeyOf 239 = .ok (.goto (-101), 3) := by decide +kernel
theorem dX9_splitKeyOf_242 : decode cX9_splitKeyOf 242 = .ok (.iload 6, 2) := by decide +kernel
theorem dX9_splitKeyOf_244 : decode cX9_splitKeyOf 244 = .ok (.ireturn, 1) := by decide +kernel
theorem dX9_rangeAt_0 : decode cX9_rangeAt 0 = .ok (.iconst 0, 1) := by decide +kernel
theorem dX9_rangeAt_1 : decode cX9_rangeAt 1 = .ok (.istore_n 2, 1) := by decide +kernel
theorem dX9_rangeAt_2 : decode cX9_rangeAt 2 = .ok (.aload_n 0, 1) := by decide +kernel
theorem dX9_rangeAt_3 : decode cX9_rangeAt 3 = .ok (.iload_n 1, 1) := by decide +kernel
theorem dX9_rangeAt_4 : decode cX9_rangeAt 4 = .ok (.iload_n 2, 1) := by decide +kernel
theorem dX9_rangeAt_5 : decode cX9_rangeAt 5 = .ok (.invokevirtual 72, 3) := by decide +kernel
theorem dX9_rangeAt_8 : decode cX9_rangeAt 8 = .ok (.ifCond .ne 9, 3) := by decide +kernel
theorem dX9_rangeAt_11 : decode cX9_rangeAt 11 = .ok (.iinc 2 1, 3) := by decide +kernel
theorem dX9_rangeAt_14 : decode cX9_rangeAt 14 = .ok (.goto (-12), 3) := by decide +kernel
theorem dX9_rangeAt_17 : decode cX9_rangeAt 17 = .ok (.iload_n 2, 1) := by decide +kernel
theorem dX9_rangeAt_18 : decode cX9_rangeAt 18 = .ok (.ireturn, 1) := by decide +kernel
theorem dX9_split_0 : decode cX9_split 0 = .ok (.sipush 171, 3) := by decide +kernel
theorem dX9_split_3 : decode cX9_split 3 = .ok (.bipush 6, 2) := by decide +kernel
theorem dX9_split_5 : decode cX9_split 5 = .ok (.aload_n 0, 1) := by decide +kernel
theorem dX9_split_6 : decode cX9_split 6 = .ok (.getfield 7, 3) := by decide +kernel
theorem dX9_split_9 : decode cX9_split 9 = .ok (.bipush 17, 2) := by decide +kernel
theorem dX9_split_11 : decode cX9_split 11 = .ok (.iaload, 1) := by decide +kernel
theorem dX9_split_12 : decode cX9_split 12 = .ok (.imul, 1) := by decide +kernel
theorem dX9_split_13 : decode cX9_split 13 = .ok (.iadd, 1) := by decide +kernel
theorem dX9_split_14 : decode cX9_split 14 = .ok (.iconst 1, 1) := by decide +kernel
theorem dX9_split_15 : decode cX9_split 15 = .ok (.isub, 1) := by decide +kernel
theorem dX9_split_16 : decode cX9_split 16 = .ok (.istore_n 3, 1) := by decide +kernel
theorem dX9_split_17 : decode cX9_split 17 = .ok (.iload_n 3, 1) := by decide +kernel
theorem dX9_split_18 : decode cX9_split 18 = .ok (.sipush 171, 3) := by decide +kernel
theorem dX9_split_21 : decode cX9_split 21 = .ok (.bipush 6, 2) := by decide +kernel
theorem dX9_split_23 : decode cX9_split 23 = .ok (.iload_n 1, 1) := by decide +kernel
theorem dX9_split_24 : decode cX9_split 24 = .ok (.imul, 1) := by decide +kernel
theorem dX9_split_25 : decode cX9_split 25 = .ok (.iadd, 1) := by decide +kernel
theorem dX9_split_26 : decode cX9_split 26 = .ok (.if_icmp .lt 24, 3) := by decide +kernel
theorem dX9_split_29 : decode cX9_split 29 = .ok (.aload_n 0, 1) := by decide +kernel
theorem dX9_split_30 : decode cX9_split 30 = .ok (.getfield 7, 3) := by decide +kernel
theorem dX9_split_33 : decode cX9_split 33 = .ok (.iload_n 3, 1) := by decide +kernel
theorem dX9_split_34 : decode cX9_split 34 = .ok (.bipush 6, 2) := by decide +kernel
theorem dX9_split_36 : decode cX9_split 36 = .ok (.iadd, 1) := by decide +kernel
theorem dX9_split_37 : decode cX9_split 37 = .ok (.aload_n 0, 1) := by decide +kernel
theorem dX9_split_38 : decode cX9_split 38 = .ok (.getfield 7, 3) := by decide +kernel
theorem dX9_split_41 : decode cX9_split 41 = .ok (.iload_n 3, 1) := by decide +kernel
theorem dX9_split_42 : decode cX9_split 42 = .ok (.iaload, 1) := by decide +kernel
theorem dX9_split_43 : decode cX9_split 43 = .ok (.iastore, 1) := by decide +kernel
theorem dX9_split_44 : decode cX9_split 44 = .ok (.iinc 3 (-1), 3) := by decide +kernel
theorem dX9_split_47 : decode cX9_split 47 = .ok (.goto (-30), 3) := by decide +kernel
theorem dX9_split_50 : decode cX9_split 50 = .ok (.aload_n 0, 1) := by decide +kernel
theorem dX9_split_51 : decode cX9_split 51 = .ok (.getfield 7, 3) := by decide +kernel
theorem dX9_split_54 : decode cX9_split 54 = .ok (.bipush 17, 2) := by decide +kernel
theorem dX9_split_56 : decode cX9_split 56 = .ok (.dup2, 1) := by decide +kernel
theorem dX9_split_57 : decode cX9_split 57 = .ok (.iaload, 1) := by decide +kernel
theorem dX9_split_58 : decode cX9_split 58 = .ok (.iconst 1, 1) := by decide +kernel
theorem dX9_split_59 : decode cX9_split 59 = .ok (.iadd, 1) := by decide +kernel
theorem dX9_split_60 : decode cX9_split 60 = .ok (.iastore, 1) := by decide +kernel
theorem dX9_split_61 : decode cX9_split 61 = .ok (.aload_n 0, 1) := by decide +kernel
theorem dX9_split_62 : decode cX9_split 62 = .ok (.iload_n 1, 1) := by decide +kernel
theorem dX9_split_63 : decode cX9_split 63 = .ok (.iconst 1, 1) := by decide +kernel
theorem dX9_split_64 : decode cX9_split 64 = .ok (.iadd, 1) := by decide +kernel
theorem dX9_split_65 : decode cX9_split 65 = .ok (.iconst 0, 1) := by decide +kernel
theorem dX9_split_66 : decode cX9_split 66 = .ok (.iload_n 2, 1) := by decide +kernel
theorem dX9_split_67 : decode cX9_split 67 = .ok (.invokevirtual 19, 3) := by decide +kernel
theorem dX9_split_70 : decode cX9_split 70 = .ok (.return_, 1) := by decide +kernel
theorem dX9_mergeNextInto_0 : decode cX9_mergeNextInto 0 = .ok (.sipush 171, 3) := by decide +kernel
theorem dX9_mergeNextInto_3 : decode cX9_mergeNextInto 3 = .ok (.bipush 6, 2) := by decide +kernel
theorem dX9_mergeNextInto_5 : decode cX9_mergeNextInto 5 = .ok (.iload_n 1, 1) := by decide +kernel
theorem dX9_mergeNextInto_6 : decode cX9_mergeNextInto 6 = .ok (.iconst 1, 1) := by decide +kernel
theorem dX9_mergeNextInto_7 : decode cX9_mergeNextInto 7 = .ok (.iadd, 1) := by decide +kernel
theorem dX9_mergeNextInto_8 : decode cX9_mergeNextInto 8 = .ok (.imul, 1) := by decide +kernel
theorem dX9_mergeNextInto_9 : decode cX9_mergeNextInto 9 = .ok (.iadd, 1) := by decide +kernel
theorem dX9_mergeNextInto_10 : decode cX9_mergeNextInto 10 = .ok (.istore_n 2, 1) := by decide +kernel
theorem dX9_mergeNextInto_11 : decode cX9_mergeNextInto 11 = .ok (.iload_n 2, 1) := by decide +kernel
theorem dX9_mergeNextInto_12 : decode cX9_mergeNextInto 12 = .ok (.bipush 6, 2) := by decide +kernel
theorem dX9_mergeNextInto_14 : decode cX9_mergeNextInto 14 = .ok (.iadd, 1) := by decide +kernel
theorem dX9_mergeNextInto_15 : decode cX9_mergeNextInto 15 = .ok (.sipush 171, 3) := by decide +kernel
theorem dX9_mergeNextInto_18 : decode cX9_mergeNextInto 18 = .ok (.bipush 6, 2) := by decide +kernel
theorem dX9_mergeNextInto_20 : decode cX9_mergeNextInto 20 = .ok (.aload_n 0, 1) := by decide +kernel
theorem dX9_mergeNextInto_21 : decode cX9_mergeNextInto 21 = .ok (.getfield 7, 3) := by decide +kernel
theorem dX9_mergeNextInto_24 : decode cX9_mergeNextInto 24 = .ok (.bipush 17, 2) := by decide +kernel
theorem dX9_mergeNextInto_26 : decode cX9_mergeNextInto 26 = .ok (.iaload, 1) := by decide +kernel
theorem dX9_mergeNextInto_27 : decode cX9_mergeNextInto 27 = .ok (.imul, 1) := by decide +kernel
theorem dX9_mergeNextInto_28 : decode cX9_mergeNextInto 28 = .ok (.iadd, 1) := by decide +kernel
theorem dX9_mergeNextInto_29 : decode cX9_mergeNextInto 29 = .ok (.if_icmp .ge 24, 3) := by decide +kernel
theorem dX9_mergeNextInto_32 : decode cX9_mergeNextInto 32 = .ok (.aload_n 0, 1) := by decide +kernel
theorem dX9_mergeNextInto_33 : decode cX9_mergeNextInto 33 = .ok (.getfield 7, 3) := by decide +kernel
theorem dX9_mergeNextInto_36 : decode cX9_mergeNextInto 36 = .ok (.iload_n 2, 1) := by decide +kernel
theorem dX9_mergeNextInto_37 : decode cX9_mergeNextInto 37 = .ok (.aload_n 0, 1) := by decide +kernel
theorem dX9_mergeNextInto_38 : decode cX9_mergeNextInto 38 = .ok (.getfield 7, 3) := by decide +kernel
theorem dX9_mergeNextInto_41 : decode cX9_mergeNextInto 41 = .ok (.iload_n 2, 1) := by decide +kernel
theorem dX9_mergeNextInto_42 : decode cX9_mergeNextInto 42 = .ok (.bipush 6, 2) := by decide +kernel
theorem dX9_mergeNextInto_44 : decode cX9_mergeNextInto 44 = .ok (.iadd, 1) := by decide +kernel
theorem dX9_mergeNextInto_45 : decode cX9_mergeNextInto 45 = .ok (.iaload, 1) := by decide +kernel
theorem dX9_mergeNextInto_46 : decode cX9_mergeNextInto 46 = .ok (.iastore, 1) := by decide +kernel
theorem dX9_mergeNextInto_47 : decode cX9_mergeNextInto 47 = .ok (.iinc 2 1, 3) := by decide +kernel
theorem dX9_mergeNextInto_50 : decode cX9_mergeNextInto 50 = .ok (.goto (-39), 3) := by decide +kernel
theorem dX9_mergeNextInto_53 : decode cX9_mergeNextInto 53 = .ok (.aload_n 0, 1) := by decide +kernel
theorem dX9_mergeNextInto_54 : decode cX9_mergeNextInto 54 = .ok (.getfield 7, 3) := by decide +kernel
theorem dX9_mergeNextInto_57 : decode cX9_mergeNextInto 57 = .ok (.bipush 17, 2) := by decide +kernel
theorem dX9_mergeNextInto_59 : decode cX9_mergeNextInto 59 = .ok (.dup2, 1) := by decide +kernel
theorem dX9_mergeNextInto_60 : decode cX9_mergeNextInto 60 = .ok (.iaload, 1) := by decide +kernel
theorem dX9_mergeNextInto_61 : decode cX9_mergeNextInto 61 = .ok (.iconst 1, 1) := by decide +kernel
theorem dX9_mergeNextInto_62 : decode cX9_mergeNextInto 62 = .ok (.isub, 1) := by decide +kernel
theorem dX9_mergeNextInto_63 : decode cX9_mergeNextInto 63 = .ok (.iastore, 1) := by decide +kernel
theorem dX9_mergeNextInto_64 : decode cX9_mergeNextInto 64 = .ok (.iconst 0, 1) := by decide +kernel
theorem dX9_mergeNextInto_65 : decode cX9_mergeNextInto 65 = .ok (.istore_n 2, 1) := by decide +kernel
theorem dX9_mergeNextInto_66 : decode cX9_mergeNextInto 66 = .ok (.iload_n 2, 1) := by decide +kernel
theorem dX9_mergeNextInto_67 : decode cX9_mergeNextInto 67 = .ok (.bipush 6, 2) := by decide +kernel
theorem dX9_mergeNextInto_69 : decode cX9_mergeNextInto 69 = .ok (.if_icmp .ge 22, 3) := by decide +kernel
theorem dX9_mergeNextInto_72 : decode cX9_mergeNextInto 72 = .ok (.aload_n 0, 1) := by decide +kernel
theorem dX9_mergeNextInto_73 : decode cX9_mergeNextInto 73 = .ok (.aload_n 0, 1) := by decide +kernel
theorem dX9_mergeNextInto_74 : decode cX9_mergeNextInto 74 = .ok (.getfield 7, 3) := by decide +kernel
theorem dX9_mergeNextInto_77 : decode cX9_mergeNextInto 77 = .ok (.bipush 17, 2) := by decide +kernel
theorem dX9_mergeNextInto_79 : decode cX9_mergeNextInto 79 = .ok (.iaload, 1) := by decide +kernel
theorem dX9_mergeNextInto_80 : decode cX9_mergeNextInto 80 = .ok (.iload_n 2, 1) := by decide +kernel
theorem dX9_mergeNextInto_81 : decode cX9_mergeNextInto 81 = .ok (.iconst 0, 1) := by decide +kernel
theorem dX9_mergeNextInto_82 : decode cX9_mergeNextInto 82 = .ok (.invokevirtual 19, 3) := by decide +kernel
theorem dX9_mergeNextInto_85 : decode cX9_mergeNextInto 85 = .ok (.iinc 2 1, 3) := by decide +kernel
theorem dX9_mergeNextInto_88 : decode cX9_mergeNextInto 88 = .ok (.goto (-22), 3) := by decide +kernel
theorem dX9_mergeNextInto_91 : decode cX9_mergeNextInto 91 = .ok (.return_, 1) := by decide +kernel
theorem dX9_learn_0 : decode cX9_learn 0 = .ok (.aload_n 0, 1) := by decide +kernel
theorem dX9_learn_1 : decode cX9_learn 1 = .ok (.iload_n 1, 1) := by decide +kernel
theorem dX9_learn_2 : decode cX9_learn 2 = .ok (.iconst 3, 1) := by decide +kernel
theorem dX9_learn_3 : decode cX9_learn 3 = .ok (.iload_n 2, 1) := by decide +kernel
theorem dX9_learn_4 : decode cX9_learn 4 = .ok (.invokevirtual 19, 3) := by decide +kernel
theorem dX9_learn_7 : decode cX9_learn 7 = .ok (.aload_n 0, 1) := by decide +kernel
theorem dX9_learn_8 : decode cX9_learn 8 = .ok (.iload_n 1, 1) := by decide +kernel
theorem dX9_learn_9 : decode cX9_learn 9 = .ok (.iconst 4, 1) := by decide +kernel
theorem dX9_learn_10 : decode cX9_learn 10 = .ok (.iconst 1, 1) := by decide +kernel
theorem dX9_learn_11 : decode cX9_learn 11 = .ok (.aload_n 0, 1) := by decide +kernel
theorem dX9_learn_12 : decode cX9_learn 12 = .ok (.iload_n 1, 1) := by decide +kernel
theorem dX9_learn_13 : decode cX9_learn 13 = .ok (.iconst 0, 1) := by decide +kernel
theorem dX9_learn_14 : decode cX9_learn 14 = .ok (.invokevirtual 79, 3) := by decide +kernel
theorem dX9_learn_17 : decode cX9_learn 17 = .ok (.aload_n 0, 1) := by decide +kernel
theorem dX9_learn_18 : decode cX9_learn 18 = .ok (.getfield 7, 3) := by decide +kernel
theorem dX9_learn_21 : decode cX9_learn 21 = .ok (.iconst 5, 1) := by decide +kernel
theorem dX9_learn_22 : decode cX9_learn 22 = .ok (.iaload, 1) := by decide +kernel
theorem dX9_learn_23 : decode cX9_learn 23 = .ok (.idiv, 1) := by decide +kernel
theorem dX9_learn_24 : decode cX9_learn 24 = .ok (.iadd, 1) := by decide +kernel
theorem dX9_learn_25 : decode cX9_learn 25 = .ok (.invokevirtual 19, 3) := by decide +kernel
theorem dX9_learn_28 : decode cX9_learn 28 = .ok (.aload_n 0, 1) := by decide +kernel
theorem dX9_learn_29 : decode cX9_learn 29 = .ok (.iload_n 1, 1) := by decide +kernel
theorem dX9_learn_30 : decode cX9_learn 30 = .ok (.iconst 5, 1) := by decide +kernel
theorem dX9_learn_31 : decode cX9_learn 31 = .ok (.iload_n 3, 1) := by decide +kernel
theorem dX9_learn_32 : decode cX9_learn 32 = .ok (.invokevirtual 19, 3) := by decide +kernel
theorem dX9_learn_35 : decode cX9_learn 35 = .ok (.return_, 1) := by decide +kernel
theorem dX9_forgetLearner_0 : decode cX9_forgetLearner 0 = .ok (.aload_n 0, 1) := by decide +kernel
theorem dX9_forgetLearner_1 : decode cX9_forgetLearner 1 = .ok (.iload_n 1, 1) := by decide +kernel
theorem dX9_forgetLearner_2 : decode cX9_forgetLearner 2 = .ok (.iconst 3, 1) := by decide +kernel
theorem dX9_forgetLearner_3 : decode cX9_forgetLearner 3 = .ok (.iconst (-1), 1) := by decide +kernel
theorem dX9_forgetLearner_4 : decode cX9_forgetLearner 4 = .ok (.invokevirtual 19, 3) := by decide +kernel
theorem dX9_forgetLearner_7 : decode cX9_forgetLearner 7 = .ok (.aload_n 0, 1) := by decide +kernel
theorem dX9_forgetLearner_8 : decode cX9_forgetLearner 8 = .ok (.iload_n 1, 1) := by decide +kernel
theorem dX9_forgetLearner_9 : decode cX9_forgetLearner 9 = .ok (.iconst 4, 1) := by decide +kernel
theorem dX9_forgetLearner_10 : decode cX9_forgetLearner 10 = .ok (.iconst 0, 1) := by decide +kernel
theorem dX9_forgetLearner_11 : decode cX9_forgetLearner 11 = .ok (.invokevirtual 19, 3) := by decide +kernel
theorem dX9_forgetLearner_14 : decode cX9_forgetLearner 14 = .ok (.aload_n 0, 1) := by decide +kernel
theorem dX9_forgetLearner_15 : decode cX9_forgetLearner 15 = .ok (.iload_n 1, 1) := by decide +kernel
theorem dX9_forgetLearner_16 : decode cX9_forgetLearner 16 = .ok (.iconst 5, 1) := by decide +kernel
theorem dX9_forgetLearner_17 : decode cX9_forgetLearner 17 = .ok (.iconst (-1), 1) := by decide +kernel
theorem dX9_forgetLearner_18 : decode cX9_forgetLearner 18 = .ok (.invokevirtual 19, 3) := by decide +kernel
theorem dX9_forgetLearner_21 : decode cX9_forgetLearner 21 = .ok (.return_, 1) := by decide +kernel
theorem dX9_progress_0 : decode cX9_progress 0 = .ok (.aload_n 0, 1) := by decide +kernel
theorem dX9_progress_1 : decode cX9_progress 1 = .ok (.iload_n 1, 1) := by decide +kernel
theorem dX9_progress_2 : decode cX9_progress 2 = .ok (.iconst 3, 1) := by decide +kernel
theorem dX9_progress_3 : decode cX9_progress 3 = .ok (.invokevirtual 39, 3) := by decide +kernel
theorem dX9_progress_6 : decode cX9_progress 6 = .ok (.istore_n 2, 1) := by decide +kernel
theorem dX9_progress_7 : decode cX9_progress 7 = .ok (.iload_n 2, 1) := by decide +kernel
theorem dX9_progress_8 : decode cX9_progress 8 = .ok (.iconst (-1), 1) := by decide +kernel
theorem dX9_progress_9 : decode cX9_progress 9 = .ok (.if_icmp .eq 21, 3) := by decide +kernel
theorem dX9_progress_12 : decode cX9_progress 12 = .ok (.aload_n 0, 1) := by decide +kernel
theorem dX9_progress_13 : decode cX9_progress 13 = .ok (.iload_n 2, 1) := by decide +kernel
theorem dX9_progress_14 : decode cX9_progress 14 = .ok (.invokevirtual 35, 3) := by decide +kernel
theorem dX9_progress_17 : decode cX9_progress 17 = .ok (.ifCond .eq 13, 3) := by decide +kernel
theorem dX9_progress_20 : decode cX9_progress 20 = .ok (.aload_n 0, 1) := by decide +kernel
theorem dX9_progress_21 : decode cX9_progress 21 = .ok (.iload_n 1, 1) := by decide +kernel
theorem dX9_progress_22 : decode cX9_progress 22 = .ok (.iconst 2, 1) := by decide +kernel
theorem dX9_progress_23 : decode cX9_progress 23 = .ok (.invokevirtual 39, 3) := by decide +kernel
theorem dX9_progress_26 : decode cX9_progress 26 = .ok (.iconst (-1), 1) := by decide +kernel
theorem dX9_progress_27 : decode cX9_progress 27 = .ok (.if_icmp .ne 4, 3) := by decide +kernel
theorem dX9_progress_30 : decode cX9_progress 30 = .ok (.return_, 1) := by decide +kernel
theorem dX9_progress_31 : decode cX9_progress 31 = .ok (.aload_n 0, 1) := by decide +kernel
theorem dX9_progress_32 : decode cX9_progress 32 = .ok (.iload_n 1, 1) := by decide +kernel
theorem dX9_progress_33 : decode cX9_progress 33 = .ok (.iconst 4, 1) := by decide +kernel
theorem dX9_progress_34 : decode cX9_progress 34 = .ok (.aload_n 0, 1) := by decide +kernel
theorem dX9_progress_35 : decode cX9_progress 35 = .ok (.iload_n 1, 1) := by decide +kernel
theorem dX9_progress_36 : decode cX9_progress 36 = .ok (.iconst 4, 1) := by decide +kernel
theorem dX9_progress_37 : decode cX9_progress 37 = .ok (.invokevirtual 39, 3) := by decide +kernel
theorem dX9_progress_40 : decode cX9_progress 40 = .ok (.iconst 1, 1) := by decide +kernel
theorem dX9_progress_41 : decode cX9_progress 41 = .ok (.isub, 1) := by decide +kernel
theorem dX9_progress_42 : decode cX9_progress 42 = .ok (.invokevirtual 19, 3) := by decide +kernel
theorem dX9_progress_45 : decode cX9_progress 45 = .ok (.aload_n 0, 1) := by decide +kernel
theorem dX9_progress_46 : decode cX9_progress 46 = .ok (.iload_n 1, 1) := by decide +kernel
theorem dX9_progress_47 : decode cX9_progress 47 = .ok (.iconst 4, 1) := by decide +kernel
theorem dX9_progress_48 : decode cX9_progress 48 = .ok (.invokevirtual 39, 3) := by decide +kernel
theorem dX9_progress_51 : decode cX9_progress 51 = .ok (.ifCond .le 4, 3) := by decide +kernel
theorem dX9_progress_54 : decode cX9_progress 54 = .ok (.return_, 1) := by decide +kernel
theorem dX9_progress_55 : decode cX9_progress 55 = .ok (.aload_n 0, 1) := by decide +kernel
theorem dX9_progress_56 : decode cX9_progress 56 = .ok (.iload_n 1, 1) := by decide +kernel
theorem dX9_progress_57 : decode cX9_progress 57 = .ok (.iconst 5, 1) := by decide +kernel
theorem dX9_progress_58 : decode cX9_progress 58 = .ok (.invokevirtual 39, 3) := by decide +kernel
theorem dX9_progress_61 : decode cX9_progress 61 = .ok (.istore_n 3, 1) := by decide +kernel
theorem dX9_progress_62 : decode cX9_progress 62 = .ok (.aload_n 0, 1) := by decide +kernel
theorem dX9_progress_63 : decode cX9_progress 63 = .ok (.iload_n 1, 1) := by decide +kernel
theorem dX9_progress_64 : decode cX9_progress 64 = .ok (.invokevirtual 82, 3) := by decide +kernel
theorem dX9_progress_67 : decode cX9_progress 67 = .ok (.aload_n 0, 1) := by decide +kernel
theorem dX9_progress_68 : decode cX9_progress 68 = .ok (.iload_n 1, 1) := by decide +kernel
theorem dX9_progress_69 : decode cX9_progress 69 = .ok (.iconst 1, 1) := by decide +kernel
theorem dX9_progress_70 : decode cX9_progress 70 = .ok (.invokevirtual 39, 3) := by decide +kernel
theorem dX9_progress_73 : decode cX9_progress 73 = .ok (.iconst 1, 1) := by decide +kernel
theorem dX9_progress_74 : decode cX9_progress 74 = .ok (.iload_n 2, 1) := by decide +kernel
theorem dX9_progress_75 : decode cX9_progress 75 = .ok (.ishl, 1) := by decide +kernel
theorem dX9_progress_76 : decode cX9_progress 76 = .ok (.ior, 1) := by decide +kernel
theorem dX9_progress_77 : decode cX9_progress 77 = .ok (.istore 4, 2) := by decide +kernel
theorem dX9_progress_79 : decode cX9_progress 79 = .ok (.aload_n 0, 1) := by decide +kernel
theorem dX9_progress_80 : decode cX9_progress 80 = .ok (.iload_n 1, 1) := by decide +kernel
theorem dX9_progress_81 : decode cX9_progress 81 = .ok (.iconst 1, 1) := by decide +kernel
theorem dX9_progress_82 : decode cX9_progress 82 = .ok (.iload_n 3, 1) := by decide +kernel
theorem dX9_progress_83 : decode cX9_progress 83 = .ok (.iconst (-1), 1) := by decide +kernel
theorem dX9_progress_84 : decode cX9_progress 84 = .ok (.if_icmp .ne 8, 3) := by decide +kernel
theorem dX9_progress_87 : decode cX9_progress 87 = .ok (.iload 4, 2) := by decide +kernel
theorem dX9_progress_89 : decode cX9_progress 89 = .ok (.goto 11, 3) := by decide +kernel
theorem dX9_progress_92 : decode cX9_progress 92 = .ok (.iload 4, 2) := by decide +kernel
theorem dX9_progress_94 : decode cX9_progress 94 = .ok (.iconst 1, 1) := by decide +kernel
theorem dX9_progress_95 : decode cX9_progress 95 = .ok (.iload_n 3, 1) := by decide +kernel
theorem dX9_progress_96 : decode cX9_progress 96 = .ok (.ishl, 1) := by decide +kernel
theorem dX9_progress_97 : decode cX9_progress 97 = .ok (.iconst (-1), 1) := by decide +kernel
theorem dX9_progress_98 : decode cX9_progress 98 = .ok (.ixor, 1) := by decide +kernel
theorem dX9_progress_99 : decode cX9_progress 99 = .ok (.iand, 1) := by decide +kernel
theorem dX9_progress_100 : decode cX9_progress 100 = .ok (.invokevirtual 19, 3) := by decide +kernel
theorem dX9_progress_103 : decode cX9_progress 103 = .ok (.iload_n 3, 1) := by decide +kernel
theorem dX9_progress_104 : decode cX9_progress 104 = .ok (.iconst (-1), 1) := by decide +kernel
theorem dX9_progress_105 : decode cX9_progress 105 = .ok (.if_icmp .eq 18, 3) := by decide +kernel
theorem dX9_progress_108 : decode cX9_progress 108 = .ok (.aload_n 0, 1) := by decide +kernel
theorem dX9_progress_109 : decode cX9_progress 109 = .ok (.iload_n 1, 1) := by decide +kernel
theorem dX9_progress_110 : decode cX9_progress 110 = .ok (.iconst 2, 1) := by decide +kernel
theorem dX9_progress_111 : decode cX9_progress 111 = .ok (.invokevirtual 39, 3) := by decide +kernel
theorem dX9_progress_114 : decode cX9_progress 114 = .ok (.iload_n 3, 1) := by decide +kernel
theorem dX9_progress_115 : decode cX9_progress 115 = .ok (.if_icmp .ne 8, 3) := by decide +kernel
theorem dX9_progress_118 : decode cX9_progress 118 = .ok (.aload_n 0, 1) := by decide +kernel
theorem dX9_progress_119 : decode cX9_progress 119 = .ok (.iload_n 1, 1) := by decide +kernel
theorem dX9_progress_120 : decode cX9_progress 120 = .ok (.invokevirtual 86, 3) := by decide +kernel
theorem dX9_progress_123 : decode cX9_progress 123 = .ok (.return_, 1) := by decide +kernel
theorem dX9_create_0 : decode cX9_create 0 = .ok (.aload_n 0, 1) := by decide +kernel
theorem dX9_create_1 : decode cX9_create 1 = .ok (.iload_n 1, 1) := by decide +kernel
theorem dX9_create_2 : decode cX9_create 2 = .ok (.iconst 1, 1) := by decide +kernel
theorem dX9_create_3 : decode cX9_create 3 = .ok (.invokevirtual 39, 3) := by decide +kernel
theorem dX9_create_6 : decode cX9_create 6 = .ok (.ifCond .ne 12, 3) := by decide +kernel
theorem dX9_create_9 : decode cX9_create 9 = .ok (.aload_n 0, 1) := by decide +kernel
theorem dX9_create_10 : decode cX9_create 10 = .ok (.iload_n 1, 1) := by decide +kernel
theorem dX9_create_11 : decode cX9_create 11 = .ok (.iconst (-1), 1) := by decide +kernel
theorem dX9_create_12 : decode cX9_create 12 = .ok (.invokevirtual 89, 3) := by decide +kernel
theorem dX9_create_15 : decode cX9_create 15 = .ok (.goto 4, 3) := by decide +kernel
theorem dX9_create_18 : decode cX9_create 18 = .ok (.iconst (-1), 1) := by decide +kernel
theorem dX9_create_19 : decode cX9_create 19 = .ok (.istore_n 2, 1) := by decide +kernel
theorem dX9_create_20 : decode cX9_create 20 = .ok (.iload_n 2, 1) := by decide +kernel
theorem dX9_create_21 : decode cX9_create 21 = .ok (.iconst (-1), 1) := by decide +kernel
theorem dX9_create_22 : decode cX9_create 22 = .ok (.if_icmp .ne 5, 3) := by decide +kernel
theorem dX9_create_25 : decode cX9_create 25 = .ok (.iconst 0, 1) := by decide +kernel
theorem dX9_create_26 : decode cX9_create 26 = .ok (.ireturn, 1) := by decide +kernel
theorem dX9_create_27 : decode cX9_create 27 = .ok (.aload_n 0, 1) := by decide +kernel
theorem dX9_create_28 : decode cX9_create 28 = .ok (.iload_n 1, 1) := by decide +kernel
theorem dX9_create_29 : decode cX9_create 29 = .ok (.iconst 1, 1) := by decide +kernel
theorem dX9_create_30 : decode cX9_create 30 = .ok (.iconst 1, 1) := by decide +kernel
theorem dX9_create_31 : decode cX9_create 31 = .ok (.iload_n 2, 1) := by decide +kernel
theorem dX9_create_32 : decode cX9_create 32 = .ok (.ishl, 1) := by decide +kernel
theorem dX9_create_33 : decode cX9_create 33 = .ok (.invokevirtual 19, 3) := by decide +kernel
theorem dX9_create_36 : decode cX9_create 36 = .ok (.aload_n 0, 1) := by decide +kernel
theorem dX9_create_37 : decode cX9_create 37 = .ok (.iload_n 1, 1) := by decide +kernel
theorem dX9_create_38 : decode cX9_create 38 = .ok (.invokevirtual 86, 3) := by decide +kernel
theorem dX9_create_41 : decode cX9_create 41 = .ok (.iconst 1, 1) := by decide +kernel
theorem dX9_create_42 : decode cX9_create 42 = .ok (.ireturn, 1) := by decide +kernel
theorem dX9_isWhole_0 : decode cX9_isWhole 0 = .ok (.aload_n 0, 1) := by decide +kernel
theorem dX9_isWhole_1 : decode cX9_isWhole 1 = .ok (.iload_n 1, 1) := by decide +kernel
theorem dX9_isWhole_2 : decode cX9_isWhole 2 = .ok (.invokevirtual 54, 3) := by decide +kernel
theorem dX9_isWhole_5 : decode cX9_isWhole 5 = .ok (.ifCond .eq 33, 3) := by decide +kernel
theorem dX9_isWhole_8 : decode cX9_isWhole 8 = .ok (.aload_n 0, 1) := by decide +kernel
theorem dX9_isWhole_9 : decode cX9_isWhole 9 = .ok (.iload_n 1, 1) := by decide +kernel
theorem dX9_isWhole_10 : decode cX9_isWhole 10 = .ok (.iconst 1, 1) := by decide +kernel
theorem dX9_isWhole_11 : decode cX9_isWhole 11 = .ok (.invokevirtual 39, 3) := by decide +kernel
theorem dX9_isWhole_14 : decode cX9_isWhole 14 = .ok (.aload_n 0, 1) := by decide +kernel
theorem dX9_isWhole_15 : decode cX9_isWhole 15 = .ok (.invokevirtual 43, 3) := by decide +kernel
theorem dX9_isWhole_18 : decode cX9_isWhole 18 = .ok (.iconst (-1), 1) := by decide +kernel
theorem dX9_isWhole_19 : decode cX9_isWhole 19 = .ok (.ixor, 1) := by decide +kernel
theorem dX9_isWhole_20 : decode cX9_isWhole 20 = .ok (.iand, 1) := by decide +kernel
theorem dX9_isWhole_21 : decode cX9_isWhole 21 = .ok (.ifCond .ne 17, 3) := by decide +kernel
theorem dX9_isWhole_24 : decode cX9_isWhole 24 = .ok (.aload_n 0, 1) := by decide +kernel
theorem dX9_isWhole_25 : decode cX9_isWhole 25 = .ok (.iload_n 1, 1) := by decide +kernel
theorem dX9_isWhole_26 : decode cX9_isWhole 26 = .ok (.iconst 3, 1) := by decide +kernel
theorem dX9_isWhole_27 : decode cX9_isWhole 27 = .ok (.invokevirtual 39, 3) := by decide +kernel
theorem dX9_isWhole_30 : decode cX9_isWhole 30 = .ok (.iconst (-1), 1) := by decide +kernel
theorem dX9_isWhole_31 : decode cX9_isWhole 31 = .ok (.if_icmp .ne 7, 3) := by decide +kernel
theorem dX9_isWhole_34 : decode cX9_isWhole 34 = .ok (.iconst 1, 1) := by decide +kernel
theorem dX9_isWhole_35 : decode cX9_isWhole 35 = .ok (.goto 4, 3) := by decide +kernel
theorem dX9_isWhole_38 : decode cX9_isWhole 38 = .ok (.iconst 0, 1) := by decide +kernel
theorem dX9_isWhole_39 : decode cX9_isWhole 39 = .ok (.ireturn, 1) := by decide +kernel
theorem dX9_repair_0 : decode cX9_repair 0 = .ok (.aload_n 0, 1) := by decide +kernel
theorem dX9_repair_1 : decode cX9_repair 1 = .ok (.iload_n 1, 1) := by decide +kernel
theorem dX9_repair_2 : decode cX9_repair 2 = .ok (.iconst 1, 1) := by decide +kernel
theorem dX9_repair_3 : decode cX9_repair 3 = .ok (.invokevirtual 39, 3) := by decide +kernel
theorem dX9_repair_6 : decode cX9_repair 6 = .ok (.aload_n 0, 1) := by decide +kernel
theorem dX9_repair_7 : decode cX9_repair 7 = .ok (.invokevirtual 43, 3) := by decide +kernel
theorem dX9_repair_10 : decode cX9_repair 10 = .ok (.iand, 1) := by decide +kernel
theorem dX9_repair_11 : decode cX9_repair 11 = .ok (.istore_n 2, 1) := by decide +kernel
theorem dX9_repair_12 : decode cX9_repair 12 = .ok (.aload_n 0, 1) := by decide +kernel
theorem dX9_repair_13 : decode cX9_repair 13 = .ok (.iload_n 1, 1) := by decide +kernel
theorem dX9_repair_14 : decode cX9_repair 14 = .ok (.invokevirtual 54, 3) := by decide +kernel
theorem dX9_repair_17 : decode cX9_repair 17 = .ok (.ifCond .eq 26, 3) := by decide +kernel
theorem dX9_repair_20 : decode cX9_repair 20 = .ok (.aload_n 0, 1) := by decide +kernel
theorem dX9_repair_21 : decode cX9_repair 21 = .ok (.iload_n 1, 1) := by decide +kernel
theorem dX9_repair_22 : decode cX9_repair 22 = .ok (.iconst 3, 1) := by decide +kernel
theorem dX9_repair_23 : decode cX9_repair 23 = .ok (.invokevirtual 39, 3) := by decide +kernel
theorem dX9_repair_26 : decode cX9_repair 26 = .ok (.iconst (-1), 1) := by decide +kernel
theorem dX9_repair_27 : decode cX9_repair 27 = .ok (.if_icmp .ne 16, 3) := by decide +kernel
theorem dX9_repair_30 : decode cX9_repair 30 = .ok (.iload_n 2, 1) := by decide +kernel
theorem dX9_repair_31 : decode cX9_repair 31 = .ok (.invokestatic 47, 3) := by decide +kernel
theorem dX9_repair_34 : decode cX9_repair 34 = .ok (.aload_n 0, 1) := by decide +kernel
theorem dX9_repair_35 : decode cX9_repair 35 = .ok (.getfield 7, 3) := by decide +kernel
theorem dX9_repair_38 : decode cX9_repair 38 = .ok (.iconst 0, 1) := by decide +kernel
theorem dX9_repair_39 : decode cX9_repair 39 = .ok (.iaload, 1) := by decide +kernel
theorem dX9_repair_40 : decode cX9_repair 40 = .ok (.if_icmp .lt 5, 3) := by decide +kernel
theorem dX9_repair_43 : decode cX9_repair 43 = .ok (.iconst 0, 1) := by decide +kernel
theorem dX9_repair_44 : decode cX9_repair 44 = .ok (.ireturn, 1) := by decide +kernel
theorem dX9_repair_45 : decode cX9_repair 45 = .ok (.iconst (-1), 1) := by decide +kernel
theorem dX9_repair_46 : decode cX9_repair 46 = .ok (.istore_n 3, 1) := by decide +kernel
theorem dX9_repair_47 : decode cX9_repair 47 = .ok (.bipush 7, 2) := by decide +kernel
theorem dX9_repair_49 : decode cX9_repair 49 = .ok (.istore 4, 2) := by decide +kernel
theorem dX9_repair_51 : decode cX9_repair 51 = .ok (.iload 4, 2) := by decide +kernel
theorem dX9_repair_53 : decode cX9_repair 53 = .ok (.ifCond .lt 34, 3) := by decide +kernel
theorem dX9_repair_56 : decode cX9_repair 56 = .ok (.aload_n 0, 1) := by decide +kernel
theorem dX9_repair_57 : decode cX9_repair 57 = .ok (.iload_n 1, 1) := by decide +kernel
theorem dX9_repair_58 : decode cX9_repair 58 = .ok (.iconst 1, 1) := by decide +kernel
theorem dX9_repair_59 : decode cX9_repair 59 = .ok (.invokevirtual 39, 3) := by decide +kernel
theorem dX9_repair_62 : decode cX9_repair 62 = .ok (.iload_n 2, 1) := by decide +kernel
theorem dX9_repair_63 : decode cX9_repair 63 = .ok (.iconst (-1), 1) := by decide +kernel
theorem dX9_repair_64 : decode cX9_repair 64 = .ok (.ixor, 1) := by decide +kernel
theorem dX9_repair_65 : decode cX9_repair 65 = .ok (.iand, 1) := by decide +kernel
theorem dX9_repair_66 : decode cX9_repair 66 = .ok (.iload 4, 2) := by decide +kernel
theorem dX9_repair_68 : decode cX9_repair 68 = .ok (.invokestatic 50, 3) := by decide +kernel
theorem dX9_repair_71 : decode cX9_repair 71 = .ok (.ifCond .eq 8, 3) := by decide +kernel
theorem dX9_repair_74 : decode cX9_repair 74 = .ok (.iload 4, 2) := by decide +kernel
theorem dX9_repair_76 : decode cX9_repair 76 = .ok (.goto 4, 3) := by decide +kernel
theorem dX9_repair_79 : decode cX9_repair 79 = .ok (.iload_n 3, 1) := by decide +kernel
theorem dX9_repair_80 : decode cX9_repair 80 = .ok (.istore_n 3, 1) := by decide +kernel
theorem dX9_repair_81 : decode cX9_repair 81 = .ok (.iinc 4 (-1), 3) := by decide +kernel
theorem dX9_repair_84 : decode cX9_repair 84 = .ok (.goto (-33), 3) := by decide +kernel
theorem dX9_repair_87 : decode cX9_repair 87 = .ok (.aload_n 0, 1) := by decide +kernel
theorem dX9_repair_88 : decode cX9_repair 88 = .ok (.iload_n 1, 1) := by decide +kernel
theorem dX9_repair_89 : decode cX9_repair 89 = .ok (.iload_n 3, 1) := by decide +kernel
theorem dX9_repair_90 : decode cX9_repair 90 = .ok (.invokevirtual 89, 3) := by decide +kernel
theorem dX9_repair_93 : decode cX9_repair 93 = .ok (.istore 4, 2) := by decide +kernel
theorem dX9_repair_95 : decode cX9_repair 95 = .ok (.iload 4, 2) := by decide +kernel
theorem dX9_repair_97 : decode cX9_repair 97 = .ok (.iconst (-1), 1) := by decide +kernel
theorem dX9_repair_98 : decode cX9_repair 98 = .ok (.if_icmp .eq 11, 3) := by decide +kernel
theorem dX9_repair_101 : decode cX9_repair 101 = .ok (.aload_n 0, 1) := by decide +kernel
theorem dX9_repair_102 : decode cX9_repair 102 = .ok (.iload_n 1, 1) := by decide +kernel
theorem dX9_repair_103 : decode cX9_repair 103 = .ok (.iload 4, 2) := by decide +kernel
theorem dX9_repair_105 : decode cX9_repair 105 = .ok (.iload_n 3, 1) := by decide +kernel
theorem dX9_repair_106 : decode cX9_repair 106 = .ok (.invokevirtual 92, 3) := by decide +kernel
theorem dX9_repair_109 : decode cX9_repair 109 = .ok (.iload 4, 2) := by decide +kernel
theorem dX9_repair_111 : decode cX9_repair 111 = .ok (.iconst (-1), 1) := by decide +kernel
theorem dX9_repair_112 : decode cX9_repair 112 = .ok (.if_icmp .eq 7, 3) := by decide +kernel
theorem dX9_repair_115 : decode cX9_repair 115 = .ok (.iconst 1, 1) := by decide +kernel
theorem dX9_repair_116 : decode cX9_repair 116 = .ok (.goto 4, 3) := by decide +kernel
theorem dX9_repair_119 : decode cX9_repair 119 = .ok (.iconst 0, 1) := by decide +kernel
theorem dX9_repair_120 : decode cX9_repair 120 = .ok (.ireturn, 1) := by decide +kernel
theorem dX9_spread_0 : decode cX9_spread 0 = .ok (.aload_n 0, 1) := by decide +kernel
theorem dX9_spread_1 : decode cX9_spread 1 = .ok (.iload_n 1, 1) := by decide +kernel
theorem dX9_spread_2 : decode cX9_spread 2 = .ok (.invokevirtual 95, 3) := by decide +kernel
theorem dX9_spread_5 : decode cX9_spread 5 = .ok (.ifCond .ne 5, 3) := by decide +kernel
theorem dX9_spread_8 : decode cX9_spread 8 = .ok (.iconst 0, 1) := by decide +kernel
theorem dX9_spread_9 : decode cX9_spread 9 = .ok (.ireturn, 1) := by decide +kernel
theorem dX9_spread_10 : decode cX9_spread 10 = .ok (.iconst (-1), 1) := by decide +kernel
theorem dX9_spread_11 : decode cX9_spread 11 = .ok (.istore_n 2, 1) := by decide +kernel
theorem dX9_spread_12 : decode cX9_spread 12 = .ok (.iconst 0, 1) := by decide +kernel
theorem dX9_spread_13 : decode cX9_spread 13 = .ok (.istore_n 3, 1) := by decide +kernel
theorem dX9_spread_14 : decode cX9_spread 14 = .ok (.iload_n 3, 1) := by decide +kernel
theorem dX9_spread_15 : decode cX9_spread 15 = .ok (.aload_n 0, 1) := by decide +kernel
theorem dX9_spread_16 : decode cX9_spread 16 = .ok (.getfield 7, 3) := by decide +kernel
theorem dX9_spread_19 : decode cX9_spread 19 = .ok (.bipush 15, 2) := by decide +kernel
theorem dX9_spread_21 : decode cX9_spread 21 = .ok (.iaload, 1) := by decide +kernel
theorem dX9_spread_22 : decode cX9_spread 22 = .ok (.if_icmp .ge 38, 3) := by decide +kernel
theorem dX9_spread_25 : decode cX9_spread 25 = .ok (.aload_n 0, 1) := by decide +kernel
theorem dX9_spread_26 : decode cX9_spread 26 = .ok (.iload_n 1, 1) := by decide +kernel
theorem dX9_spread_27 : decode cX9_spread 27 = .ok (.iconst 1, 1) := by decide +kernel
theorem dX9_spread_28 : decode cX9_spread 28 = .ok (.invokevirtual 39, 3) := by decide +kernel
theorem dX9_spread_31 : decode cX9_spread 31 = .ok (.iload_n 3, 1) := by decide +kernel
theorem dX9_spread_32 : decode cX9_spread 32 = .ok (.invokestatic 50, 3) := by decide +kernel
theorem dX9_spread_35 : decode cX9_spread 35 = .ok (.ifCond .eq 17, 3) := by decide +kernel
theorem dX9_spread_38 : decode cX9_spread 38 = .ok (.aload_n 0, 1) := by decide +kernel
theorem dX9_spread_39 : decode cX9_spread 39 = .ok (.iload_n 1, 1) := by decide +kernel
theorem dX9_spread_40 : decode cX9_spread 40 = .ok (.iload_n 3, 1) := by decide +kernel
theorem dX9_spread_41 : decode cX9_spread 41 = .ok (.iload_n 3, 1) := by decide +kernel
theorem dX9_spread_42 : decode cX9_spread 42 = .ok (.invokevirtual 66, 3) := by decide +kernel
theorem dX9_spread_45 : decode cX9_spread 45 = .ok (.ifCond .ne 7, 3) := by decide +kernel
theorem dX9_spread_48 : decode cX9_spread 48 = .ok (.iload_n 3, 1) := by decide +kernel
theorem dX9_spread_49 : decode cX9_spread 49 = .ok (.goto 4, 3) := by decide +kernel
theorem dX9_spread_52 : decode cX9_spread 52 = .ok (.iload_n 2, 1) := by decide +kernel
theorem dX9_spread_53 : decode cX9_spread 53 = .ok (.istore_n 2, 1) := by decide +kernel
theorem dX9_spread_54 : decode cX9_spread 54 = .ok (.iinc 3 1, 3) := by decide +kernel
theorem dX9_spread_57 : decode cX9_spread 57 = .ok (.goto (-43), 3) := by decide +kernel
theorem dX9_spread_60 : decode cX9_spread 60 = .ok (.iload_n 2, 1) := by decide +kernel
theorem dX9_spread_61 : decode cX9_spread 61 = .ok (.iconst (-1), 1) := by decide +kernel
theorem dX9_spread_62 : decode cX9_spread 62 = .ok (.if_icmp .ne 7, 3) := by decide +kernel
theorem dX9_spread_65 : decode cX9_spread 65 = .ok (.iconst (-1), 1) := by decide +kernel
theorem dX9_spread_66 : decode cX9_spread 66 = .ok (.goto 9, 3) := by decide +kernel
theorem dX9_spread_69 : decode cX9_spread 69 = .ok (.aload_n 0, 1) := by decide +kernel
theorem dX9_spread_70 : decode cX9_spread 70 = .ok (.iload_n 1, 1) := by decide +kernel
theorem dX9_spread_71 : decode cX9_spread 71 = .ok (.iload_n 2, 1) := by decide +kernel
theorem dX9_spread_72 : decode cX9_spread 72 = .ok (.invokevirtual 89, 3) := by decide +kernel
theorem dX9_spread_75 : decode cX9_spread 75 = .ok (.istore_n 3, 1) := by decide +kernel
theorem dX9_spread_76 : decode cX9_spread 76 = .ok (.iload_n 3, 1) := by decide +kernel
theorem dX9_spread_77 : decode cX9_spread 77 = .ok (.iconst (-1), 1) := by decide +kernel
theorem dX9_spread_78 : decode cX9_spread 78 = .ok (.if_icmp .eq 13, 3) := by decide +kernel
theorem dX9_spread_81 : decode cX9_spread 81 = .ok (.aload_n 0, 1) := by decide +kernel
theorem dX9_spread_82 : decode cX9_spread 82 = .ok (.iload_n 1, 1) := by decide +kernel
theorem dX9_spread_83 : decode cX9_spread 83 = .ok (.iload_n 3, 1) := by decide +kernel
theorem dX9_spread_84 : decode cX9_spread 84 = .ok (.iload_n 2, 1) := by decide +kernel
theorem dX9_spread_85 : decode cX9_spread 85 = .ok (.invokevirtual 66, 3) := by decide +kernel
theorem dX9_spread_88 : decode cX9_spread 88 = .ok (.ifCond .ne 5, 3) := by decide +kernel
theorem dX9_spread_91 : decode cX9_spread 91 = .ok (.iconst 0, 1) := by decide +kernel
theorem dX9_spread_92 : decode cX9_spread 92 = .ok (.ireturn, 1) := by decide +kernel
theorem dX9_spread_93 : decode cX9_spread 93 = .ok (.aload_n 0, 1) := by decide +kernel
theorem dX9_spread_94 : decode cX9_spread 94 = .ok (.iload_n 1, 1) := by decide +kernel
theorem dX9_spread_95 : decode cX9_spread 95 = .ok (.iload_n 3, 1) := by decide +kernel
theorem dX9_spread_96 : decode cX9_spread 96 = .ok (.iload_n 2, 1) := by decide +kernel
theorem dX9_spread_97 : decode cX9_spread 97 = .ok (.invokevirtual 92, 3) := by decide +kernel
theorem dX9_spread_100 : decode cX9_spread 100 = .ok (.iconst 1, 1) := by decide +kernel
theorem dX9_spread_101 : decode cX9_spread 101 = .ok (.ireturn, 1) := by decide +kernel
theorem dX9_splitBy_0 : decode cX9_splitBy 0 = .ok (.aload_n 0, 1) := by decide +kernel
theorem dX9_splitBy_1 : decode cX9_splitBy 1 = .ok (.iload_n 1, 1) := by decide +kernel
theorem dX9_splitBy_2 : decode cX9_splitBy 2 = .ok (.iload_n 2, 1) := by decide +kernel
theorem dX9_splitBy_3 : decode cX9_splitBy 3 = .ok (.invokevirtual 98, 3) := by decide +kernel
theorem dX9_splitBy_6 : decode cX9_splitBy 6 = .ok (.istore_n 3, 1) := by decide +kernel
theorem dX9_splitBy_7 : decode cX9_splitBy 7 = .ok (.aload_n 0, 1) := by decide +kernel
theorem dX9_splitBy_8 : decode cX9_splitBy 8 = .ok (.getfield 7, 3) := by decide +kernel
theorem dX9_splitBy_11 : decode cX9_splitBy 11 = .ok (.iload_n 2, 1) := by decide +kernel
theorem dX9_splitBy_12 : decode cX9_splitBy 12 = .ok (.ifCond .ne 7, 3) := by decide +kernel
theorem dX9_splitBy_15 : decode cX9_splitBy 15 = .ok (.iconst 2, 1) := by decide +kernel
theorem dX9_splitBy_16 : decode cX9_splitBy 16 = .ok (.goto 4, 3) := by decide +kernel
theorem dX9_splitBy_19 : decode cX9_splitBy 19 = .ok (.iconst 4, 1) := by decide +kernel
theorem dX9_splitBy_20 : decode cX9_splitBy 20 = .ok (.iaload, 1) := by decide +kernel
theorem dX9_splitBy_21 : decode cX9_splitBy 21 = .ok (.istore 4, 2) := by decide +kernel
theorem dX9_splitBy_23 : decode cX9_splitBy 23 = .ok (.aload_n 0, 1) := by decide +kernel
theorem dX9_splitBy_24 : decode cX9_splitBy 24 = .ok (.iload_n 1, 1) := by decide +kernel
theorem dX9_splitBy_25 : decode cX9_splitBy 25 = .ok (.iconst 3, 1) := by decide +kernel
theorem dX9_splitBy_26 : decode cX9_splitBy 26 = .ok (.invokevirtual 39, 3) := by decide +kernel
theorem dX9_splitBy_29 : decode cX9_splitBy 29 = .ok (.iconst (-1), 1) := by decide +kernel
theorem dX9_splitBy_30 : decode cX9_splitBy 30 = .ok (.if_icmp .ne 31, 3) := by decide +kernel
theorem dX9_splitBy_33 : decode cX9_splitBy 33 = .ok (.aload_n 0, 1) := by decide +kernel
theorem dX9_splitBy_34 : decode cX9_splitBy 34 = .ok (.iload_n 1, 1) := by decide +kernel
theorem dX9_splitBy_35 : decode cX9_splitBy 35 = .ok (.iload_n 2, 1) := by decide +kernel
theorem dX9_splitBy_36 : decode cX9_splitBy 36 = .ok (.invokevirtual 79, 3) := by decide +kernel
theorem dX9_splitBy_39 : decode cX9_splitBy 39 = .ok (.iload 4, 2) := by decide +kernel
theorem dX9_splitBy_41 : decode cX9_splitBy 41 = .ok (.if_icmp .le 20, 3) := by decide +kernel
theorem dX9_splitBy_44 : decode cX9_splitBy 44 = .ok (.iload_n 3, 1) := by decide +kernel
theorem dX9_splitBy_45 : decode cX9_splitBy 45 = .ok (.iconst (-1), 1) := by decide +kernel
theorem dX9_splitBy_46 : decode cX9_splitBy 46 = .ok (.if_icmp .eq 15, 3) := by decide +kernel
theorem dX9_splitBy_49 : decode cX9_splitBy 49 = .ok (.aload_n 0, 1) := by decide +kernel
theorem dX9_splitBy_50 : decode cX9_splitBy 50 = .ok (.getfield 7, 3) := by decide +kernel
theorem dX9_splitBy_53 : decode cX9_splitBy 53 = .ok (.bipush 17, 2) := by decide +kernel
theorem dX9_splitBy_55 : decode cX9_splitBy 55 = .ok (.iaload, 1) := by decide +kernel
theorem dX9_splitBy_56 : decode cX9_splitBy 56 = .ok (.bipush 16, 2) := by decide +kernel
theorem dX9_splitBy_58 : decode cX9_splitBy 58 = .ok (.if_icmp .ne 5, 3) := by decide +kernel
theorem dX9_splitBy_61 : decode cX9_splitBy 61 = .ok (.iconst 0, 1) := by decide +kernel
theorem dX9_splitBy_62 : decode cX9_splitBy 62 = .ok (.ireturn, 1) := by decide +kernel
theorem dX9_splitBy_63 : decode cX9_splitBy 63 = .ok (.aload_n 0, 1) := by decide +kernel
theorem dX9_splitBy_64 : decode cX9_splitBy 64 = .ok (.iload_n 1, 1) := by decide +kernel
theorem dX9_splitBy_65 : decode cX9_splitBy 65 = .ok (.iload_n 3, 1) := by decide +kernel
theorem dX9_splitBy_66 : decode cX9_splitBy 66 = .ok (.invokevirtual 101, 3) := by decide +kernel
theorem dX9_splitBy_69 : decode cX9_splitBy 69 = .ok (.iconst 1, 1) := by decide +kernel
theorem dX9_splitBy_70 : decode cX9_splitBy 70 = .ok (.ireturn, 1) := by decide +kernel
theorem dX9_isCold_0 : decode cX9_isCold 0 = .ok (.aload_n 0, 1) := by decide +kernel
theorem dX9_isCold_1 : decode cX9_isCold 1 = .ok (.iload_n 1, 1) := by decide +kernel
theorem dX9_isCold_2 : decode cX9_isCold 2 = .ok (.iconst 3, 1) := by decide +kernel
theorem dX9_isCold_3 : decode cX9_isCold 3 = .ok (.invokevirtual 39, 3) := by decide +kernel
theorem dX9_isCold_6 : decode cX9_isCold 6 = .ok (.iconst (-1), 1) := by decide +kernel
theorem dX9_isCold_7 : decode cX9_isCold 7 = .ok (.if_icmp .ne 45, 3) := by decide +kernel
theorem dX9_isCold_10 : decode cX9_isCold 10 = .ok (.aload_n 0, 1) := by decide +kernel
theorem dX9_isCold_11 : decode cX9_isCold 11 = .ok (.iload_n 1, 1) := by decide +kernel
theorem dX9_isCold_12 : decode cX9_isCold 12 = .ok (.invokevirtual 54, 3) := by decide +kernel
theorem dX9_isCold_15 : decode cX9_isCold 15 = .ok (.ifCond .eq 37, 3) := by decide +kernel
theorem dX9_isCold_18 : decode cX9_isCold 18 = .ok (.aload_n 0, 1) := by decide +kernel
theorem dX9_isCold_19 : decode cX9_isCold 19 = .ok (.iload_n 1, 1) := by decide +kernel
theorem dX9_isCold_20 : decode cX9_isCold 20 = .ok (.iconst 0, 1) := by decide +kernel
theorem dX9_isCold_21 : decode cX9_isCold 21 = .ok (.invokevirtual 79, 3) := by decide +kernel
theorem dX9_isCold_24 : decode cX9_isCold 24 = .ok (.aload_n 0, 1) := by decide +kernel
theorem dX9_isCold_25 : decode cX9_isCold 25 = .ok (.getfield 7, 3) := by decide +kernel
theorem dX9_isCold_28 : decode cX9_isCold 28 = .ok (.iconst 1, 1) := by decide +kernel
theorem dX9_isCold_29 : decode cX9_isCold 29 = .ok (.iaload, 1) := by decide +kernel
theorem dX9_isCold_30 : decode cX9_isCold 30 = .ok (.if_icmp .ge 22, 3) := by decide +kernel
theorem dX9_isCold_33 : decode cX9_isCold 33 = .ok (.aload_n 0, 1) := by decide +kernel
theorem dX9_isCold_34 : decode cX9_isCold 34 = .ok (.iload_n 1, 1) := by decide +kernel
theorem dX9_isCold_35 : decode cX9_isCold 35 = .ok (.iconst 1, 1) := by decide +kernel
theorem dX9_isCold_36 : decode cX9_isCold 36 = .ok (.invokevirtual 79, 3) := by decide +kernel
theorem dX9_isCold_39 : decode cX9_isCold 39 = .ok (.aload_n 0, 1) := by decide +kernel
theorem dX9_isCold_40 : decode cX9_isCold 40 = .ok (.getfield 7, 3) := by decide +kernel
theorem dX9_isCold_43 : decode cX9_isCold 43 = .ok (.iconst 3, 1) := by decide +kernel
theorem dX9_isCold_44 : decode cX9_isCold 44 = .ok (.iaload, 1) := by decide +kernel
theorem dX9_isCold_45 : decode cX9_isCold 45 = .ok (.if_icmp .ge 7, 3) := by decide +kernel
theorem dX9_isCold_48 : decode cX9_isCold 48 = .ok (.iconst 1, 1) := by decide +kernel
theorem dX9_isCold_49 : decode cX9_isCold 49 = .ok (.goto 4, 3) := by decide +kernel
theorem dX9_isCold_52 : decode cX9_isCold 52 = .ok (.iconst 0, 1) := by decide +kernel
theorem dX9_isCold_53 : decode cX9_isCold 53 = .ok (.ireturn, 1) := by decide +kernel
theorem dX9_mergeNext_0 : decode cX9_mergeNext 0 = .ok (.iload_n 1, 1) := by decide +kernel
theorem dX9_mergeNext_1 : decode cX9_mergeNext 1 = .ok (.iconst 1, 1) := by decide +kernel
theorem dX9_mergeNext_2 : decode cX9_mergeNext 2 = .ok (.iadd, 1) := by decide +kernel
theorem dX9_mergeNext_3 : decode cX9_mergeNext 3 = .ok (.aload_n 0, 1) := by decide +kernel
theorem dX9_mergeNext_4 : decode cX9_mergeNext 4 = .ok (.getfield 7, 3) := by decide +kernel
theorem dX9_mergeNext_7 : decode cX9_mergeNext 7 = .ok (.bipush 17, 2) := by decide +kernel
theorem dX9_mergeNext_9 : decode cX9_mergeNext 9 = .ok (.iaload, 1) := by decide +kernel
theorem dX9_mergeNext_10 : decode cX9_mergeNext 10 = .ok (.if_icmp .eq 21, 3) := by decide +kernel
theorem dX9_mergeNext_13 : decode cX9_mergeNext 13 = .ok (.aload_n 0, 1) := by decide +kernel
theorem dX9_mergeNext_14 : decode cX9_mergeNext 14 = .ok (.iload_n 1, 1) := by decide +kernel
theorem dX9_mergeNext_15 : decode cX9_mergeNext 15 = .ok (.invokevirtual 105, 3) := by decide +kernel
theorem dX9_mergeNext_18 : decode cX9_mergeNext 18 = .ok (.ifCond .eq 13, 3) := by decide +kernel
theorem dX9_mergeNext_21 : decode cX9_mergeNext 21 = .ok (.aload_n 0, 1) := by decide +kernel
theorem dX9_mergeNext_22 : decode cX9_mergeNext 22 = .ok (.iload_n 1, 1) := by decide +kernel
theorem dX9_mergeNext_23 : decode cX9_mergeNext 23 = .ok (.iconst 1, 1) := by decide +kernel
theorem dX9_mergeNext_24 : decode cX9_mergeNext 24 = .ok (.iadd, 1) := by decide +kernel
theorem dX9_mergeNext_25 : decode cX9_mergeNext 25 = .ok (.invokevirtual 105, 3) := by decide +kernel
theorem dX9_mergeNext_28 : decode cX9_mergeNext 28 = .ok (.ifCond .ne 5, 3) := by decide +kernel
theorem dX9_mergeNext_31 : decode cX9_mergeNext 31 = .ok (.iconst 0, 1) := by decide +kernel
theorem dX9_mergeNext_32 : decode cX9_mergeNext 32 = .ok (.ireturn, 1) := by decide +kernel
theorem dX9_mergeNext_33 : decode cX9_mergeNext 33 = .ok (.aload_n 0, 1) := by decide +kernel
theorem dX9_mergeNext_34 : decode cX9_mergeNext 34 = .ok (.iload_n 1, 1) := by decide +kernel
theorem dX9_mergeNext_35 : decode cX9_mergeNext 35 = .ok (.iconst 1, 1) := by decide +kernel
theorem dX9_mergeNext_36 : decode cX9_mergeNext 36 = .ok (.invokevirtual 39, 3) := by decide +kernel
theorem dX9_mergeNext_39 : decode cX9_mergeNext 39 = .ok (.aload_n 0, 1) := by decide +kernel
theorem dX9_mergeNext_40 : decode cX9_mergeNext 40 = .ok (.iload_n 1, 1) := by decide +kernel
theorem dX9_mergeNext_41 : decode cX9_mergeNext 41 = .ok (.iconst 1, 1) := by decide +kernel
theorem dX9_mergeNext_42 : decode cX9_mergeNext 42 = .ok (.iadd, 1) := by decide +kernel
theorem dX9_mergeNext_43 : decode cX9_mergeNext 43 = .ok (.iconst 1, 1) := by decide +kernel
theorem dX9_mergeNext_44 : decode cX9_mergeNext 44 = .ok (.invokevirtual 39, 3) := by decide +kernel
theorem dX9_mergeNext_47 : decode cX9_mergeNext 47 = .ok (.if_icmp .ne 27, 3) := by decide +kernel
theorem dX9_mergeNext_50 : decode cX9_mergeNext 50 = .ok (.aload_n 0, 1) := by decide +kernel
theorem dX9_mergeNext_51 : decode cX9_mergeNext 51 = .ok (.iload_n 1, 1) := by decide +kernel
theorem dX9_mergeNext_52 : decode cX9_mergeNext 52 = .ok (.iconst 0, 1) := by decide +kernel
theorem dX9_mergeNext_53 : decode cX9_mergeNext 53 = .ok (.invokevirtual 79, 3) := by decide +kernel
theorem dX9_mergeNext_56 : decode cX9_mergeNext 56 = .ok (.aload_n 0, 1) := by decide +kernel
theorem dX9_mergeNext_57 : decode cX9_mergeNext 57 = .ok (.iload_n 1, 1) := by decide +kernel
theorem dX9_mergeNext_58 : decode cX9_mergeNext 58 = .ok (.iconst 1, 1) := by decide +kernel
theorem dX9_mergeNext_59 : decode cX9_mergeNext 59 = .ok (.iadd, 1) := by decide +kernel
theorem dX9_mergeNext_60 : decode cX9_mergeNext 60 = .ok (.iconst 0, 1) := by decide +kernel
theorem dX9_mergeNext_61 : decode cX9_mergeNext 61 = .ok (.invokevirtual 79, 3) := by decide +kernel
theorem dX9_mergeNext_64 : decode cX9_mergeNext 64 = .ok (.iadd, 1) := by decide +kernel
theorem dX9_mergeNext_65 : decode cX9_mergeNext 65 = .ok (.aload_n 0, 1) := by decide +kernel
theorem dX9_mergeNext_66 : decode cX9_mergeNext 66 = .ok (.getfield 7, 3) := by decide +kernel
theorem dX9_mergeNext_69 : decode cX9_mergeNext 69 = .ok (.iconst 2, 1) := by decide +kernel
theorem dX9_mergeNext_70 : decode cX9_mergeNext 70 = .ok (.iaload, 1) := by decide +kernel
theorem dX9_mergeNext_71 : decode cX9_mergeNext 71 = .ok (.if_icmp .le 5, 3) := by decide +kernel
theorem dX9_mergeNext_74 : decode cX9_mergeNext 74 = .ok (.iconst 0, 1) := by decide +kernel
theorem dX9_mergeNext_75 : decode cX9_mergeNext 75 = .ok (.ireturn, 1) := by decide +kernel
theorem dX9_mergeNext_76 : decode cX9_mergeNext 76 = .ok (.aload_n 0, 1) := by decide +kernel
theorem dX9_mergeNext_77 : decode cX9_mergeNext 77 = .ok (.iload_n 1, 1) := by decide +kernel
theorem dX9_mergeNext_78 : decode cX9_mergeNext 78 = .ok (.invokevirtual 108, 3) := by decide +kernel
theorem dX9_mergeNext_81 : decode cX9_mergeNext 81 = .ok (.iconst 1, 1) := by decide +kernel
theorem dX9_mergeNext_82 : decode cX9_mergeNext 82 = .ok (.ireturn, 1) := by decide +kernel
theorem dX9_shiftLeader_0 : decode cX9_shiftLeader 0 = .ok (.aload_n 0, 1) := by decide +kernel
theorem dX9_shiftLeader_1 : decode cX9_shiftLeader 1 = .ok (.iload_n 1, 1) := by decide +kernel
theorem dX9_shiftLeader_2 : decode cX9_shiftLeader 2 = .ok (.iconst 2, 1) := by decide +kernel
theorem dX9_shiftLeader_3 : decode cX9_shiftLeader 3 = .ok (.invokevirtual 39, 3) := by decide +kernel
theorem dX9_shiftLeader_6 : decode cX9_shiftLeader 6 = .ok (.istore_n 2, 1) := by decide +kernel
theorem dX9_shiftLeader_7 : decode cX9_shiftLeader 7 = .ok (.iconst (-1), 1) := by decide +kernel
theorem dX9_shiftLeader_8 : decode cX9_shiftLeader 8 = .ok (.istore_n 3, 1) := by decide +kernel
theorem dX9_shiftLeader_9 : decode cX9_shiftLeader 9 = .ok (.iconst 0, 1) := by decide +kernel
theorem dX9_shiftLeader_10 : decode cX9_shiftLeader 10 = .ok (.istore 4, 2) := by decide +kernel
theorem dX9_shiftLeader_12 : decode cX9_shiftLeader 12 = .ok (.iload 4, 2) := by decide +kernel
theorem dX9_shiftLeader_14 : decode cX9_shiftLeader 14 = .ok (.bipush 8, 2) := by decide +kernel
theorem dX9_shiftLeader_16 : decode cX9_shiftLeader 16 = .ok (.if_icmp .ge 91, 3) := by decide +kernel
theorem dX9_shiftLeader_19 : decode cX9_shiftLeader 19 = .ok (.iload_n 2, 1) := by decide +kernel
theorem dX9_shiftLeader_20 : decode cX9_shiftLeader 20 = .ok (.iconst (-1), 1) := by decide +kernel
theorem dX9_shiftLeader_21 : decode cX9_shiftLeader 21 = .ok (.if_icmp .eq 86, 3) := by decide +kernel
theorem dX9_shiftLeader_24 : decode cX9_shiftLeader 24 = .ok (.aload_n 0, 1) := by decide +kernel
theorem dX9_shiftLeader_25 : decode cX9_shiftLeader 25 = .ok (.iload_n 1, 1) := by decide +kernel
theorem dX9_shiftLeader_26 : decode cX9_shiftLeader 26 = .ok (.iconst 1, 1) := by decide +kernel
theorem dX9_shiftLeader_27 : decode cX9_shiftLeader 27 = .ok (.invokevirtual 39, 3) := by decide +kernel
theorem dX9_shiftLeader_30 : decode cX9_shiftLeader 30 = .ok (.aload_n 0, 1) := by decide +kernel
theorem dX9_shiftLeader_31 : decode cX9_shiftLeader 31 = .ok (.invokevirtual 43, 3) := by decide +kernel
theorem dX9_shiftLeader_34 : decode cX9_shiftLeader 34 = .ok (.iand, 1) := by decide +kernel
theorem dX9_shiftLeader_35 : decode cX9_shiftLeader 35 = .ok (.iload 4, 2) := by decide +kernel
theorem dX9_shiftLeader_37 : decode cX9_shiftLeader 37 = .ok (.invokestatic 50, 3) := by decide +kernel
theorem dX9_shiftLeader_40 : decode cX9_shiftLeader 40 = .ok (.ifCond .eq 25, 3) := by decide +kernel
theorem dX9_shiftLeader_43 : decode cX9_shiftLeader 43 = .ok (.aload_n 0, 1) := by decide +kernel
theorem dX9_shiftLeader_44 : decode cX9_shiftLeader 44 = .ok (.iload 4, 2) := by decide +kernel
theorem dX9_shiftLeader_46 : decode cX9_shiftLeader 46 = .ok (.iconst (-1), 1) := by decide +kernel
theorem dX9_shiftLeader_47 : decode cX9_shiftLeader 47 = .ok (.invokevirtual 57, 3) := by decide +kernel
theorem dX9_shiftLeader_50 : decode cX9_shiftLeader 50 = .ok (.aload_n 0, 1) := by decide +kernel
theorem dX9_shiftLeader_51 : decode cX9_shiftLeader 51 = .ok (.iload_n 2, 1) := by decide +kernel
theorem dX9_shiftLeader_52 : decode cX9_shiftLeader 52 = .ok (.iconst (-1), 1) := by decide +kernel
theorem dX9_shiftLeader_53 : decode cX9_shiftLeader 53 = .ok (.invokevirtual 57, 3) := by decide +kernel
theorem dX9_shiftLeader_56 : decode cX9_shiftLeader 56 = .ok (.iconst 2, 1) := by decide +kernel
theorem dX9_shiftLeader_57 : decode cX9_shiftLeader 57 = .ok (.isub, 1) := by decide +kernel
theorem dX9_shiftLeader_58 : decode cX9_shiftLeader 58 = .ok (.if_icmp .gt 7, 3) := by decide +kernel
theorem dX9_shiftLeader_61 : decode cX9_shiftLeader 61 = .ok (.iconst 1, 1) := by decide +kernel
theorem dX9_shiftLeader_62 : decode cX9_shiftLeader 62 = .ok (.goto 4, 3) := by decide +kernel
theorem dX9_shiftLeader_65 : decode cX9_shiftLeader 65 = .ok (.iconst 0, 1) := by decide +kernel
theorem dX9_shiftLeader_66 : decode cX9_shiftLeader 66 = .ok (.istore 5, 2) := by decide +kernel
theorem dX9_shiftLeader_68 : decode cX9_shiftLeader 68 = .ok (.iload 5, 2) := by decide +kernel
theorem dX9_shiftLeader_70 : decode cX9_shiftLeader 70 = .ok (.ifCond .eq 29, 3) := by decide +kernel
theorem dX9_shiftLeader_73 : decode cX9_shiftLeader 73 = .ok (.iload_n 3, 1) := by decide +kernel
theorem dX9_shiftLeader_74 : decode cX9_shiftLeader 74 = .ok (.iconst (-1), 1) := by decide +kernel
theorem dX9_shiftLeader_75 : decode cX9_shiftLeader 75 = .ok (.if_icmp .eq 19, 3) := by decide +kernel
theorem dX9_shiftLeader_78 : decode cX9_shiftLeader 78 = .ok (.aload_n 0, 1) := by decide +kernel
theorem dX9_shiftLeader_79 : decode cX9_shiftLeader 79 = .ok (.iload 4, 2) := by decide +kernel
theorem dX9_shiftLeader_81 : decode cX9_shiftLeader 81 = .ok (.iconst (-1), 1) := by decide +kernel
theorem dX9_shiftLeader_82 : decode cX9_shiftLeader 82 = .ok (.invokevirtual 57, 3) := by decide +kernel
theorem dX9_shiftLeader_85 : decode cX9_shiftLeader 85 = .ok (.aload_n 0, 1) := by decide +kernel
theorem dX9_shiftLeader_86 : decode cX9_shiftLeader 86 = .ok (.iload_n 3, 1) := by decide +kernel
theorem dX9_shiftLeader_87 : decode cX9_shiftLeader 87 = .ok (.iconst (-1), 1) := by decide +kernel
theorem dX9_shiftLeader_88 : decode cX9_shiftLeader 88 = .ok (.invokevirtual 57, 3) := by decide +kernel
theorem dX9_shiftLeader_91 : decode cX9_shiftLeader 91 = .ok (.if_icmp .ge 8, 3) := by decide +kernel
theorem dX9_shiftLeader_94 : decode cX9_shiftLeader 94 = .ok (.iload 4, 2) := by decide +kernel
theorem dX9_shiftLeader_96 : decode cX9_shiftLeader 96 = .ok (.goto 4, 3) := by decide +kernel
theorem dX9_shiftLeader_99 : decode cX9_shiftLeader 99 = .ok (.iload_n 3, 1) := by decide +kernel
theorem dX9_shiftLeader_100 : decode cX9_shiftLeader 100 = .ok (.istore_n 3, 1) := by decide +kernel
theorem dX9_shiftLeader_101 : decode cX9_shiftLeader 101 = .ok (.iinc 4 1, 3) := by decide +kernel
theorem dX9_shiftLeader_104 : decode cX9_shiftLeader 104 = .ok (.goto (-92), 3) := by decide +kernel
theorem dX9_shiftLeader_107 : decode cX9_shiftLeader 107 = .ok (.iload_n 3, 1) := by decide +kernel
theorem dX9_shiftLeader_108 : decode cX9_shiftLeader 108 = .ok (.iconst (-1), 1) := by decide +kernel
theorem dX9_shiftLeader_109 : decode cX9_shiftLeader 109 = .ok (.if_icmp .eq 10, 3) := by decide +kernel
theorem dX9_shiftLeader_112 : decode cX9_shiftLeader 112 = .ok (.aload_n 0, 1) := by decide +kernel
theorem dX9_shiftLeader_113 : decode cX9_shiftLeader 113 = .ok (.iload_n 1, 1) := by decide +kernel
theorem dX9_shiftLeader_114 : decode cX9_shiftLeader 114 = .ok (.iconst 2, 1) := by decide +kernel
theorem dX9_shiftLeader_115 : decode cX9_shiftLeader 115 = .ok (.iload_n 3, 1) := by decide +kernel
theorem dX9_shiftLeader_116 : decode cX9_shiftLeader 116 = .ok (.invokevirtual 19, 3) := by decide +kernel
theorem dX9_shiftLeader_119 : decode cX9_shiftLeader 119 = .ok (.iload_n 3, 1) := by decide +kernel
theorem dX9_shiftLeader_120 : decode cX9_shiftLeader 120 = .ok (.iconst (-1), 1) := by decide +kernel
theorem dX9_shiftLeader_121 : decode cX9_shiftLeader 121 = .ok (.if_icmp .eq 7, 3) := by decide +kernel
theorem dX9_shiftLeader_124 : decode cX9_shiftLeader 124 = .ok (.iconst 1, 1) := by decide +kernel
theorem dX9_shiftLeader_125 : decode cX9_shiftLeader 125 = .ok (.goto 4, 3) := by decide +kernel
theorem dX9_shiftLeader_128 : decode cX9_shiftLeader 128 = .ok (.iconst 0, 1) := by decide +kernel
theorem dX9_shiftLeader_129 : decode cX9_shiftLeader 129 = .ok (.ireturn, 1) := by decide +kernel
theorem dX9_shiftReplica_0 : decode cX9_shiftReplica 0 = .ok (.aload_n 0, 1) := by decide +kernel
theorem dX9_shiftReplica_1 : decode cX9_shiftReplica 1 = .ok (.iload_n 1, 1) := by decide +kernel
theorem dX9_shiftReplica_2 : decode cX9_shiftReplica 2 = .ok (.invokevirtual 95, 3) := by decide +kernel
theorem dX9_shiftReplica_5 : decode cX9_shiftReplica 5 = .ok (.ifCond .ne 5, 3) := by decide +kernel
theorem dX9_shiftReplica_8 : decode cX9_shiftReplica 8 = .ok (.iconst 0, 1) := by decide +kernel
theorem dX9_shiftReplica_9 : decode cX9_shiftReplica 9 = .ok (.ireturn, 1) := by decide +kernel
theorem dX9_shiftReplica_10 : decode cX9_shiftReplica 10 = .ok (.iconst (-1), 1) := by decide +kernel
theorem dX9_shiftReplica_11 : decode cX9_shiftReplica 11 = .ok (.istore_n 2, 1) := by decide +kernel
theorem dX9_shiftReplica_12 : decode cX9_shiftReplica 12 = .ok (.iconst 0, 1) := by decide +kernel
theorem dX9_shiftReplica_13 : decode cX9_shiftReplica 13 = .ok (.istore_n 3, 1) := by decide +kernel
theorem dX9_shiftReplica_14 : decode cX9_shiftReplica 14 = .ok (.iload_n 3, 1) := by decide +kernel
theorem dX9_shiftReplica_15 : decode cX9_shiftReplica 15 = .ok (.aload_n 0, 1) := by decide +kernel
theorem dX9_shiftReplica_16 : decode cX9_shiftReplica 16 = .ok (.getfield 7, 3) := by decide +kernel
theorem dX9_shiftReplica_19 : decode cX9_shiftReplica 19 = .ok (.bipush 15, 2) := by decide +kernel
theorem dX9_shiftReplica_21 : decode cX9_shiftReplica 21 = .ok (.iaload, 1) := by decide +kernel
theorem dX9_shiftReplica_22 : decode cX9_shiftReplica 22 = .ok (.if_icmp .ge 58, 3) := by decide +kernel
theorem dX9_shiftReplica_25 : decode cX9_shiftReplica 25 = .ok (.aload_n 0, 1) := by decide +kernel
theorem dX9_shiftReplica_26 : decode cX9_shiftReplica 26 = .ok (.iload_n 1, 1) := by decide +kernel
theorem dX9_shiftReplica_27 : decode cX9_shiftReplica 27 = .ok (.iconst 1, 1) := by decide +kernel
theorem dX9_shiftReplica_28 : decode cX9_shiftReplica 28 = .ok (.invokevirtual 39, 3) := by decide +kernel
theorem dX9_shiftReplica_31 : decode cX9_shiftReplica 31 = .ok (.iload_n 3, 1) := by decide +kernel
theorem dX9_shiftReplica_32 : decode cX9_shiftReplica 32 = .ok (.invokestatic 50, 3) := by decide +kernel
theorem dX9_shiftReplica_35 : decode cX9_shiftReplica 35 = .ok (.ifCond .eq 25, 3) := by decide +kernel
theorem dX9_shiftReplica_38 : decode cX9_shiftReplica 38 = .ok (.iload_n 2, 1) := by decide +kernel
theorem dX9_shiftReplica_39 : decode cX9_shiftReplica 39 = .ok (.iconst (-1), 1) := by decide +kernel
theorem dX9_shiftReplica_40 : decode cX9_shiftReplica 40 = .ok (.if_icmp .eq 16, 3) := by decide +kernel
theorem dX9_shiftReplica_43 : decode cX9_shiftReplica 43 = .ok (.aload_n 0, 1) := by decide +kernel
theorem dX9_shiftReplica_44 : decode cX9_shiftReplica 44 = .ok (.iload_n 3, 1) := by decide +kernel
theorem dX9_shiftReplica_45 : decode cX9_shiftReplica 45 = .ok (.invokevirtual 63, 3) := by decide +kernel
theorem dX9_shiftReplica_48 : decode cX9_shiftReplica 48 = .ok (.aload_n 0, 1) := by decide +kernel
theorem dX9_shiftReplica_49 : decode cX9_shiftReplica 49 = .ok (.iload_n 2, 1) := by decide +kernel
theorem dX9_shiftReplica_50 : decode cX9_shiftReplica 50 = .ok (.invokevirtual 63, 3) := by decide +kernel
theorem dX9_shiftReplica_53 : decode cX9_shiftReplica 53 = .ok (.if_icmp .le 7, 3) := by decide +kernel
theorem dX9_shiftReplica_56 : decode cX9_shiftReplica 56 = .ok (.iconst 1, 1) := by decide +kernel
theorem dX9_shiftReplica_57 : decode cX9_shiftReplica 57 = .ok (.goto 4, 3) := by decide +kernel
theorem dX9_shiftReplica_60 : decode cX9_shiftReplica 60 = .ok (.iconst 0, 1) := by decide +kernel
theorem dX9_shiftReplica_61 : decode cX9_shiftReplica 61 = .ok (.istore 4, 2) := by decide +kernel
theorem dX9_shiftReplica_63 : decode cX9_shiftReplica 63 = .ok (.iload 4, 2) := by decide +kernel
theorem dX9_shiftReplica_65 : decode cX9_shiftReplica 65 = .ok (.ifCond .eq 7, 3) := by decide +kernel
theorem dX9_shiftReplica_68 : decode cX9_shiftReplica 68 = .ok (.iload_n 3, 1) := by decide +kernel
theorem dX9_shiftReplica_69 : decode cX9_shiftReplica 69 = .ok (.goto 4, 3) := by decide +kernel
theorem dX9_shiftReplica_72 : decode cX9_shiftReplica 72 = .ok (.iload_n 2, 1) := by decide +kernel
theorem dX9_shiftReplica_73 : decode cX9_shiftReplica 73 = .ok (.istore_n 2, 1) := by decide +kernel
theorem dX9_shiftReplica_74 : decode cX9_shiftReplica 74 = .ok (.iinc 3 1, 3) := by decide +kernel
theorem dX9_shiftReplica_77 : decode cX9_shiftReplica 77 = .ok (.goto (-63), 3) := by decide +kernel
theorem dX9_shiftReplica_80 : decode cX9_shiftReplica 80 = .ok (.aload_n 0, 1) := by decide +kernel
theorem dX9_shiftReplica_81 : decode cX9_shiftReplica 81 = .ok (.iload_n 1, 1) := by decide +kernel
theorem dX9_shiftReplica_82 : decode cX9_shiftReplica 82 = .ok (.iload_n 2, 1) := by decide +kernel
theorem dX9_shiftReplica_83 : decode cX9_shiftReplica 83 = .ok (.invokevirtual 89, 3) := by decide +kernel
theorem dX9_shiftReplica_86 : decode cX9_shiftReplica 86 = .ok (.istore_n 3, 1) := by decide +kernel
theorem dX9_shiftReplica_87 : decode cX9_shiftReplica 87 = .ok (.iload_n 3, 1) := by decide +kernel
theorem dX9_shiftReplica_88 : decode cX9_shiftReplica 88 = .ok (.iconst (-1), 1) := by decide +kernel
theorem dX9_shiftReplica_89 : decode cX9_shiftReplica 89 = .ok (.if_icmp .eq 41, 3) := by decide +kernel
theorem dX9_shiftReplica_92 : decode cX9_shiftReplica 92 = .ok (.aload_n 0, 1) := by decide +kernel
theorem dX9_shiftReplica_93 : decode cX9_shiftReplica 93 = .ok (.iload_n 3, 1) := by decide +kernel
theorem dX9_shiftReplica_94 : decode cX9_shiftReplica 94 = .ok (.invokevirtual 63, 3) := by decide +kernel
theorem dX9_shiftReplica_97 : decode cX9_shiftReplica 97 = .ok (.aload_n 0, 1) := by decide +kernel
theorem dX9_shiftReplica_98 : decode cX9_shiftReplica 98 = .ok (.iload_n 2, 1) := by decide +kernel
theorem dX9_shiftReplica_99 : decode cX9_shiftReplica 99 = .ok (.invokevirtual 63, 3) := by decide +kernel
theorem dX9_shiftReplica_102 : decode cX9_shiftReplica 102 = .ok (.iconst 2, 1) := by decide +kernel
theorem dX9_shiftReplica_103 : decode cX9_shiftReplica 103 = .ok (.isub, 1) := by decide +kernel
theorem dX9_shiftReplica_104 : decode cX9_shiftReplica 104 = .ok (.if_icmp .gt 26, 3) := by decide +kernel
theorem dX9_shiftReplica_107 : decode cX9_shiftReplica 107 = .ok (.aload_n 0, 1) := by decide +kernel
theorem dX9_shiftReplica_108 : decode cX9_shiftReplica 108 = .ok (.iload_n 1, 1) := by decide +kernel
theorem dX9_shiftReplica_109 : decode cX9_shiftReplica 109 = .ok (.iload_n 3, 1) := by decide +kernel
theorem dX9_shiftReplica_110 : decode cX9_shiftReplica 110 = .ok (.iload_n 2, 1) := by decide +kernel
theorem dX9_shiftReplica_111 : decode cX9_shiftReplica 111 = .ok (.invokevirtual 66, 3) := by decide +kernel
theorem dX9_shiftReplica_114 : decode cX9_shiftReplica 114 = .ok (.ifCond .ne 18, 3) := by decide +kernel
theorem dX9_shiftReplica_117 : decode cX9_shiftReplica 117 = .ok (.aload_n 0, 1) := by decide +kernel
theorem dX9_shiftReplica_118 : decode cX9_shiftReplica 118 = .ok (.iload_n 3, 1) := by decide +kernel
theorem dX9_shiftReplica_119 : decode cX9_shiftReplica 119 = .ok (.invokevirtual 60, 3) := by decide +kernel
theorem dX9_shiftReplica_122 : decode cX9_shiftReplica 122 = .ok (.aload_n 0, 1) := by decide +kernel
theorem dX9_shiftReplica_123 : decode cX9_shiftReplica 123 = .ok (.iload_n 2, 1) := by decide +kernel
theorem dX9_shiftReplica_124 : decode cX9_shiftReplica 124 = .ok (.invokevirtual 60, 3) := by decide +kernel
theorem dX9_shiftReplica_127 : decode cX9_shiftReplica 127 = .ok (.if_icmp .eq 5, 3) := by decide +kernel
theorem dX9_shiftReplica_130 : decode cX9_shiftReplica 130 = .ok (.iconst 0, 1) := by decide +kernel
theorem dX9_shiftReplica_131 : decode cX9_shiftReplica 131 = .ok (.ireturn, 1) := by decide +kernel
theorem dX9_shiftReplica_132 : decode cX9_shiftReplica 132 = .ok (.aload_n 0, 1) := by decide +kernel
theorem dX9_shiftReplica_133 : decode cX9_shiftReplica 133 = .ok (.iload_n 1, 1) := by decide +kernel
theorem dX9_shiftReplica_134 : decode cX9_shiftReplica 134 = .ok (.iload_n 3, 1) := by decide +kernel
theorem dX9_shiftReplica_135 : decode cX9_shiftReplica 135 = .ok (.iload_n 2, 1) := by decide +kernel
theorem dX9_shiftReplica_136 : decode cX9_shiftReplica 136 = .ok (.invokevirtual 92, 3) := by decide +kernel
theorem dX9_shiftReplica_139 : decode cX9_shiftReplica 139 = .ok (.iconst 1, 1) := by decide +kernel
theorem dX9_shiftReplica_140 : decode cX9_shiftReplica 140 = .ok (.ireturn, 1) := by decide +kernel
theorem dX9_does_0 : decode cX9_does 0 = .ok (.iload_n 1, 1) := by decide +kernel
theorem dX9_does_1 : decode cX9_does 1 = .ok (.tableswitch 87 1 7 #[43, 49, 55, 61, 68, 75, 81], 43) := by decide +kernel
theorem dX9_does_44 : decode cX9_does 44 = .ok (.aload_n 0, 1) := by decide +kernel
theorem dX9_does_45 : decode cX9_does 45 = .ok (.iload_n 2, 1) := by decide +kernel
theorem dX9_does_46 : decode cX9_does 46 = .ok (.invokevirtual 111, 3) := by decide +kernel
theorem dX9_does_49 : decode cX9_does 49 = .ok (.ireturn, 1) := by decide +kernel
theorem dX9_does_50 : decode cX9_does 50 = .ok (.aload_n 0, 1) := by decide +kernel
theorem dX9_does_51 : decode cX9_does 51 = .ok (.iload_n 2, 1) := by decide +kernel
theorem dX9_does_52 : decode cX9_does 52 = .ok (.invokevirtual 114, 3) := by decide +kernel
theorem dX9_does_55 : decode cX9_does 55 = .ok (.ireturn, 1) := by decide +kernel
theorem dX9_does_56 : decode cX9_does 56 = .ok (.aload_n 0, 1) := by decide +kernel
theorem dX9_does_57 : decode cX9_does 57 = .ok (.iload_n 2, 1) := by decide +kernel
theorem dX9_does_58 : decode cX9_does 58 = .ok (.invokevirtual 117, 3) := by decide +kernel
theorem dX9_does_61 : decode cX9_does 61 = .ok (.ireturn, 1) := by decide +kernel
theorem dX9_does_62 : decode cX9_does 62 = .ok (.aload_n 0, 1) := by decide +kernel
theorem dX9_does_63 : decode cX9_does 63 = .ok (.iload_n 2, 1) := by decide +kernel
theorem dX9_does_64 : decode cX9_does 64 = .ok (.iconst 0, 1) := by decide +kernel
theorem dX9_does_65 : decode cX9_does 65 = .ok (.invokevirtual 120, 3) := by decide +kernel
theorem dX9_does_68 : decode cX9_does 68 = .ok (.ireturn, 1) := by decide +kernel
theorem dX9_does_69 : decode cX9_does 69 = .ok (.aload_n 0, 1) := by decide +kernel
theorem dX9_does_70 : decode cX9_does 70 = .ok (.iload_n 2, 1) := by decide +kernel
theorem dX9_does_71 : decode cX9_does 71 = .ok (.iconst 1, 1) := by decide +kernel
theorem dX9_does_72 : decode cX9_does 72 = .ok (.invokevirtual 120, 3) := by decide +kernel
theorem dX9_does_75 : decode cX9_does 75 = .ok (.ireturn, 1) := by decide +kernel
theorem dX9_does_76 : decode cX9_does 76 = .ok (.aload_n 0, 1) := by decide +kernel
theorem dX9_does_77 : decode cX9_does 77 = .ok (.iload_n 2, 1) := by decide +kernel
theorem dX9_does_78 : decode cX9_does 78 = .ok (.invokevirtual 123, 3) := by decide +kernel
theorem dX9_does_81 : decode cX9_does 81 = .ok (.ireturn, 1) := by decide +kernel
theorem dX9_does_82 : decode cX9_does 82 = .ok (.aload_n 0, 1) := by decide +kernel
theorem dX9_does_83 : decode cX9_does 83 = .ok (.iload_n 2, 1) := by decide +kernel
theorem dX9_does_84 : decode cX9_does 84 = .ok (.invokevirtual 126, 3) := by decide +kernel
theorem dX9_does_87 : decode cX9_does 87 = .ok (.ireturn, 1) := by decide +kernel
theorem dX9_does_88 : decode cX9_does 88 = .ok (.aload_n 0, 1) := by decide +kernel
theorem dX9_does_89 : decode cX9_does 89 = .ok (.iload_n 2, 1) := by decide +kernel
theorem dX9_does_90 : decode cX9_does 90 = .ok (.invokevirtual 129, 3) := by decide +kernel
theorem dX9_does_93 : decode cX9_does 93 = .ok (.ireturn, 1) := by decide +kernel
theorem dX9_oneTick_0 : decode cX9_oneTick 0 = .ok (.aload_n 0, 1) := by decide +kernel
theorem dX9_oneTick_1 : decode cX9_oneTick 1 = .ok (.getfield 7, 3) := by decide +kernel
theorem dX9_oneTick_4 : decode cX9_oneTick 4 = .ok (.bipush 6, 2) := by decide +kernel
theorem dX9_oneTick_6 : decode cX9_oneTick 6 = .ok (.dup2, 1) := by decide +kernel
theorem dX9_oneTick_7 : decode cX9_oneTick 7 = .ok (.iaload, 1) := by decide +kernel
theorem dX9_oneTick_8 : decode cX9_oneTick 8 = .ok (.iconst 1, 1) := by decide +kernel
theorem dX9_oneTick_9 : decode cX9_oneTick 9 = .ok (.iadd, 1) := by decide +kernel
theorem dX9_oneTick_10 : decode cX9_oneTick 10 = .ok (.iastore, 1) := by decide +kernel
theorem dX9_oneTick_11 : decode cX9_oneTick 11 = .ok (.iconst 0, 1) := by decide +kernel
theorem dX9_oneTick_12 : decode cX9_oneTick 12 = .ok (.istore_n 1, 1) := by decide +kernel
theorem dX9_oneTick_13 : decode cX9_oneTick 13 = .ok (.iload_n 1, 1) := by decide +kernel
theorem dX9_oneTick_14 : decode cX9_oneTick 14 = .ok (.aload_n 0, 1) := by decide +kernel
theorem dX9_oneTick_15 : decode cX9_oneTick 15 = .ok (.getfield 7, 3) := by decide +kernel
theorem dX9_oneTick_18 : decode cX9_oneTick 18 = .ok (.bipush 17, 2) := by decide +kernel
theorem dX9_oneTick_20 : decode cX9_oneTick 20 = .ok (.iaload, 1) := by decide +kernel
theorem dX9_oneTick_21 : decode cX9_oneTick 21 = .ok (.if_icmp .ge 14, 3) := by decide +kernel
theorem dX9_oneTick_24 : decode cX9_oneTick 24 = .ok (.aload_n 0, 1) := by decide +kernel
theorem dX9_oneTick_25 : decode cX9_oneTick 25 = .ok (.iload_n 1, 1) := by decide +kernel
theorem dX9_oneTick_26 : decode cX9_oneTick 26 = .ok (.invokevirtual 132, 3) := by decide +kernel
theorem dX9_oneTick_29 : decode cX9_oneTick 29 = .ok (.iinc 1 1, 3) := by decide +kernel
theorem dX9_oneTick_32 : decode cX9_oneTick 32 = .ok (.goto (-19), 3) := by decide +kernel
theorem dX9_oneTick_35 : decode cX9_oneTick 35 = .ok (.iconst 1, 1) := by decide +kernel
theorem dX9_oneTick_36 : decode cX9_oneTick 36 = .ok (.istore_n 1, 1) := by decide +kernel
theorem dX9_oneTick_37 : decode cX9_oneTick 37 = .ok (.iload_n 1, 1) := by decide +kernel
theorem dX9_oneTick_38 : decode cX9_oneTick 38 = .ok (.bipush 8, 2) := by decide +kernel
theorem dX9_oneTick_40 : decode cX9_oneTick 40 = .ok (.if_icmp .gt 57, 3) := by decide +kernel
theorem dX9_oneTick_43 : decode cX9_oneTick 43 = .ok (.iconst 0, 1) := by decide +kernel
theorem dX9_oneTick_44 : decode cX9_oneTick 44 = .ok (.istore_n 2, 1) := by decide +kernel
theorem dX9_oneTick_45 : decode cX9_oneTick 45 = .ok (.iload_n 2, 1) := by decide +kernel
theorem dX9_oneTick_46 : decode cX9_oneTick 46 = .ok (.aload_n 0, 1) := by decide +kernel
theorem dX9_oneTick_47 : decode cX9_oneTick 47 = .ok (.getfield 7, 3) := by decide +kernel
theorem dX9_oneTick_50 : decode cX9_oneTick 50 = .ok (.bipush 17, 2) := by decide +kernel
theorem dX9_oneTick_52 : decode cX9_oneTick 52 = .ok (.iaload, 1) := by decide +kernel
theorem dX9_oneTick_53 : decode cX9_oneTick 53 = .ok (.if_icmp .ge 38, 3) := by decide +kernel
theorem dX9_oneTick_56 : decode cX9_oneTick 56 = .ok (.aload_n 0, 1) := by decide +kernel
theorem dX9_oneTick_57 : decode cX9_oneTick 57 = .ok (.iload_n 1, 1) := by decide +kernel
theorem dX9_oneTick_58 : decode cX9_oneTick 58 = .ok (.iload_n 2, 1) := by decide +kernel
theorem dX9_oneTick_59 : decode cX9_oneTick 59 = .ok (.invokevirtual 135, 3) := by decide +kernel
theorem dX9_oneTick_62 : decode cX9_oneTick 62 = .ok (.ifCond .eq 23, 3) := by decide +kernel
theorem dX9_oneTick_65 : decode cX9_oneTick 65 = .ok (.aload_n 0, 1) := by decide +kernel
theorem dX9_oneTick_66 : decode cX9_oneTick 66 = .ok (.getfield 7, 3) := by decide +kernel
theorem dX9_oneTick_69 : decode cX9_oneTick 69 = .ok (.bipush 6, 2) := by decide +kernel
theorem dX9_oneTick_71 : decode cX9_oneTick 71 = .ok (.iload_n 1, 1) := by decide +kernel
theorem dX9_oneTick_72 : decode cX9_oneTick 72 = .ok (.iadd, 1) := by decide +kernel
theorem dX9_oneTick_73 : decode cX9_oneTick 73 = .ok (.dup2, 1) := by decide +kernel
theorem dX9_oneTick_74 : decode cX9_oneTick 74 = .ok (.iaload, 1) := by decide +kernel
theorem dX9_oneTick_75 : decode cX9_oneTick 75 = .ok (.iconst 1, 1) := by decide +kernel
theorem dX9_oneTick_76 : decode cX9_oneTick 76 = .ok (.iadd, 1) := by decide +kernel
theorem dX9_oneTick_77 : decode cX9_oneTick 77 = .ok (.iastore, 1) := by decide +kernel
theorem dX9_oneTick_78 : decode cX9_oneTick 78 = .ok (.bipush 100, 2) := by decide +kernel
theorem dX9_oneTick_80 : decode cX9_oneTick 80 = .ok (.iload_n 1, 1) := by decide +kernel
theorem dX9_oneTick_81 : decode cX9_oneTick 81 = .ok (.imul, 1) := by decide +kernel
theorem dX9_oneTick_82 : decode cX9_oneTick 82 = .ok (.iload_n 2, 1) := by decide +kernel
theorem dX9_oneTick_83 : decode cX9_oneTick 83 = .ok (.iadd, 1) := by decide +kernel
theorem dX9_oneTick_84 : decode cX9_oneTick 84 = .ok (.ireturn, 1) := by decide +kernel
theorem dX9_oneTick_85 : decode cX9_oneTick 85 = .ok (.iinc 2 1, 3) := by decide +kernel
theorem dX9_oneTick_88 : decode cX9_oneTick 88 = .ok (.goto (-43), 3) := by decide +kernel
theorem dX9_oneTick_91 : decode cX9_oneTick 91 = .ok (.iinc 1 1, 3) := by decide +kernel
theorem dX9_oneTick_94 : decode cX9_oneTick 94 = .ok (.goto (-57), 3) := by decide +kernel
theorem dX9_oneTick_97 : decode cX9_oneTick 97 = .ok (.iconst 0, 1) := by decide +kernel
theorem dX9_oneTick_98 : decode cX9_oneTick 98 = .ok (.ireturn, 1) := by decide +kernel
theorem dX9_tick_0 : decode cX9_tick 0 = .ok (.aload_n 0, 1) := by decide +kernel
theorem dX9_tick_1 : decode cX9_tick 1 = .ok (.invokevirtual 138, 3) := by decide +kernel
theorem dX9_tick_4 : decode cX9_tick 4 = .ok (.aload_n 0, 1) := by decide +kernel
theorem dX9_tick_5 : decode cX9_tick 5 = .ok (.invokevirtual 141, 3) := by decide +kernel
theorem dX9_tick_8 : decode cX9_tick 8 = .ok (.ireturn, 1) := by decide +kernel
theorem dX9_hasLearner_0 : decode cX9_hasLearner 0 = .ok (.iconst 0, 1) := by decide +kernel
theorem dX9_hasLearner_1 : decode cX9_hasLearner 1 = .ok (.istore_n 1, 1) := by decide +kernel
theorem dX9_hasLearner_2 : decode cX9_hasLearner 2 = .ok (.iconst 0, 1) := by decide +kernel
theorem dX9_hasLearner_3 : decode cX9_hasLearner 3 = .ok (.istore_n 2, 1) := by decide +kernel
theorem dX9_hasLearner_4 : decode cX9_hasLearner 4 = .ok (.iload_n 2, 1) := by decide +kernel
theorem dX9_hasLearner_5 : decode cX9_hasLearner 5 = .ok (.aload_n 0, 1) := by decide +kernel
theorem dX9_hasLearner_6 : decode cX9_hasLearner 6 = .ok (.getfield 7, 3) := by decide +kernel
theorem dX9_hasLearner_9 : decode cX9_hasLearner 9 = .ok (.bipush 17, 2) := by decide +kernel
theorem dX9_hasLearner_11 : decode cX9_hasLearner 11 = .ok (.iaload, 1) := by decide +kernel
theorem dX9_hasLearner_12 : decode cX9_hasLearner 12 = .ok (.if_icmp .ge 29, 3) := by decide +kernel
theorem dX9_hasLearner_15 : decode cX9_hasLearner 15 = .ok (.iload_n 1, 1) := by decide +kernel
theorem dX9_hasLearner_16 : decode cX9_hasLearner 16 = .ok (.ifCond .ne 13, 3) := by decide +kernel
theorem dX9_hasLearner_19 : decode cX9_hasLearner 19 = .ok (.aload_n 0, 1) := by decide +kernel
theorem dX9_hasLearner_20 : decode cX9_hasLearner 20 = .ok (.iload_n 2, 1) := by decide +kernel
theorem dX9_hasLearner_21 : decode cX9_hasLearner 21 = .ok (.iconst 3, 1) := by decide +kernel
theorem dX9_hasLearner_22 : decode cX9_hasLearner 22 = .ok (.invokevirtual 39, 3) := by decide +kernel
theorem dX9_hasLearner_25 : decode cX9_hasLearner 25 = .ok (.iconst (-1), 1) := by decide +kernel
theorem dX9_hasLearner_26 : decode cX9_hasLearner 26 = .ok (.if_icmp .eq 7, 3) := by decide +kernel
theorem dX9_hasLearner_29 : decode cX9_hasLearner 29 = .ok (.iconst 1, 1) := by decide +kernel
theorem dX9_hasLearner_30 : decode cX9_hasLearner 30 = .ok (.goto 4, 3) := by decide +kernel
theorem dX9_hasLearner_33 : decode cX9_hasLearner 33 = .ok (.iconst 0, 1) := by decide +kernel
theorem dX9_hasLearner_34 : decode cX9_hasLearner 34 = .ok (.istore_n 1, 1) := by decide +kernel
theorem dX9_hasLearner_35 : decode cX9_hasLearner 35 = .ok (.iinc 2 1, 3) := by decide +kernel
theorem dX9_hasLearner_38 : decode cX9_hasLearner 38 = .ok (.goto (-34), 3) := by decide +kernel
theorem dX9_hasLearner_41 : decode cX9_hasLearner 41 = .ok (.iload_n 1, 1) := by decide +kernel
theorem dX9_hasLearner_42 : decode cX9_hasLearner 42 = .ok (.ireturn, 1) := by decide +kernel
theorem dX9_settle_0 : decode cX9_settle 0 = .ok (.iload_n 1, 1) := by decide +kernel
theorem dX9_settle_1 : decode cX9_settle 1 = .ok (.iconst 1, 1) := by decide +kernel
theorem dX9_settle_2 : decode cX9_settle 2 = .ok (.sipush 200, 3) := by decide +kernel
theorem dX9_settle_5 : decode cX9_settle 5 = .ok (.invokestatic 31, 3) := by decide +kernel
theorem dX9_settle_8 : decode cX9_settle 8 = .ok (.ifCond .ne 10, 3) := by decide +kernel
theorem dX9_settle_11 : decode cX9_settle 11 = .ok (.aload_n 0, 1) := by decide +kernel
theorem dX9_settle_12 : decode cX9_settle 12 = .ok (.bipush (-2), 2) := by decide +kernel
theorem dX9_settle_14 : decode cX9_settle 14 = .ok (.invokevirtual 27, 3) := by decide +kernel
theorem dX9_settle_17 : decode cX9_settle 17 = .ok (.ireturn, 1) := by decide +kernel
theorem dX9_settle_18 : decode cX9_settle 18 = .ok (.aload_n 0, 1) := by decide +kernel
theorem dX9_settle_19 : decode cX9_settle 19 = .ok (.invokevirtual 138, 3) := by decide +kernel
theorem dX9_settle_22 : decode cX9_settle 22 = .ok (.iconst 1, 1) := by decide +kernel
theorem dX9_settle_23 : decode cX9_settle 23 = .ok (.istore_n 2, 1) := by decide +kernel
theorem dX9_settle_24 : decode cX9_settle 24 = .ok (.aload_n 0, 1) := by decide +kernel
theorem dX9_settle_25 : decode cX9_settle 25 = .ok (.invokevirtual 141, 3) := by decide +kernel
theorem dX9_settle_28 : decode cX9_settle 28 = .ok (.istore_n 3, 1) := by decide +kernel
theorem dX9_settle_29 : decode cX9_settle 29 = .ok (.iload_n 2, 1) := by decide +kernel
theorem dX9_settle_30 : decode cX9_settle 30 = .ok (.iload_n 1, 1) := by decide +kernel
theorem dX9_settle_31 : decode cX9_settle 31 = .ok (.if_icmp .ge 25, 3) := by decide +kernel
theorem dX9_settle_34 : decode cX9_settle 34 = .ok (.iload_n 3, 1) := by decide +kernel
theorem dX9_settle_35 : decode cX9_settle 35 = .ok (.ifCond .ne 10, 3) := by decide +kernel
theorem dX9_settle_38 : decode cX9_settle 38 = .ok (.aload_n 0, 1) := by decide +kernel
theorem dX9_settle_39 : decode cX9_settle 39 = .ok (.invokevirtual 144, 3) := by decide +kernel
theorem dX9_settle_42 : decode cX9_settle 42 = .ok (.ifCond .eq 14, 3) := by decide +kernel
theorem dX9_settle_45 : decode cX9_settle 45 = .ok (.aload_n 0, 1) := by decide +kernel
theorem dX9_settle_46 : decode cX9_settle 46 = .ok (.invokevirtual 141, 3) := by decide +kernel
theorem dX9_settle_49 : decode cX9_settle 49 = .ok (.istore_n 3, 1) := by decide +kernel
theorem dX9_settle_50 : decode cX9_settle 50 = .ok (.iinc 2 1, 3) := by decide +kernel
theorem dX9_settle_53 : decode cX9_settle 53 = .ok (.goto (-24), 3) := by decide +kernel
theorem dX9_settle_56 : decode cX9_settle 56 = .ok (.iload_n 2, 1) := by decide +kernel
theorem dX9_settle_57 : decode cX9_settle 57 = .ok (.ireturn, 1) := by decide +kernel
theorem dX9_performed_0 : decode cX9_performed 0 = .ok (.iload_n 1, 1) := by decide +kernel
theorem dX9_performed_1 : decode cX9_performed 1 = .ok (.iconst 1, 1) := by decide +kernel
theorem dX9_performed_2 : decode cX9_performed 2 = .ok (.bipush 8, 2) := by decide +kernel
theorem dX9_performed_4 : decode cX9_performed 4 = .ok (.invokestatic 31, 3) := by decide +kernel
theorem dX9_performed_7 : decode cX9_performed 7 = .ok (.ifCond .eq 15, 3) := by decide +kernel
theorem dX9_performed_10 : decode cX9_performed 10 = .ok (.aload_n 0, 1) := by decide +kernel
theorem dX9_performed_11 : decode cX9_performed 11 = .ok (.getfield 7, 3) := by decide +kernel
theorem dX9_performed_14 : decode cX9_performed 14 = .ok (.bipush 6, 2) := by decide +kernel
theorem dX9_performed_16 : decode cX9_performed 16 = .ok (.iload_n 1, 1) := by decide +kernel
theorem dX9_performed_17 : decode cX9_performed 17 = .ok (.iadd, 1) := by decide +kernel
theorem dX9_performed_18 : decode cX9_performed 18 = .ok (.iaload, 1) := by decide +kernel
theorem dX9_performed_19 : decode cX9_performed 19 = .ok (.goto 9, 3) := by decide +kernel
theorem dX9_performed_22 : decode cX9_performed 22 = .ok (.aload_n 0, 1) := by decide +kernel
theorem dX9_performed_23 : decode cX9_performed 23 = .ok (.bipush (-2), 2) := by decide +kernel
theorem dX9_performed_25 : decode cX9_performed 25 = .ok (.invokevirtual 27, 3) := by decide +kernel
theorem dX9_performed_28 : decode cX9_performed 28 = .ok (.ireturn, 1) := by decide +kernel
theorem dX9_time_0 : decode cX9_time 0 = .ok (.aload_n 0, 1) := by decide +kernel
theorem dX9_time_1 : decode cX9_time 1 = .ok (.getfield 7, 3) := by decide +kernel
theorem dX9_time_4 : decode cX9_time 4 = .ok (.bipush 6, 2) := by decide +kernel
theorem dX9_time_6 : decode cX9_time 6 = .ok (.iaload, 1) := by decide +kernel
theorem dX9_time_7 : decode cX9_time 7 = .ok (.ireturn, 1) := by decide +kernel
theorem dX9_addNode_0 : decode cX9_addNode 0 = .ok (.iload_n 1, 1) := by decide +kernel
theorem dX9_addNode_1 : decode cX9_addNode 1 = .ok (.iconst 0, 1) := by decide +kernel
theorem dX9_addNode_2 : decode cX9_addNode 2 = .ok (.iconst 3, 1) := by decide +kernel
theorem dX9_addNode_3 : decode cX9_addNode 3 = .ok (.invokestatic 31, 3) := by decide +kernel
theorem dX9_addNode_6 : decode cX9_addNode 6 = .ok (.ifCond .eq 13, 3) := by decide +kernel
theorem dX9_addNode_9 : decode cX9_addNode 9 = .ok (.iload_n 2, 1) := by decide +kernel
theorem dX9_addNode_10 : decode cX9_addNode 10 = .ok (.iconst 1, 1) := by decide +kernel
theorem dX9_addNode_11 : decode cX9_addNode 11 = .ok (.bipush 16, 2) := by decide +kernel
theorem dX9_addNode_13 : decode cX9_addNode 13 = .ok (.invokestatic 31, 3) := by decide +kernel
theorem dX9_addNode_16 : decode cX9_addNode 16 = .ok (.ifCond .ne 10, 3) := by decide +kernel
theorem dX9_addNode_19 : decode cX9_addNode 19 = .ok (.aload_n 0, 1) := by decide +kernel
theorem dX9_addNode_20 : decode cX9_addNode 20 = .ok (.bipush (-2), 2) := by decide +kernel
theorem dX9_addNode_22 : decode cX9_addNode 22 = .ok (.invokevirtual 27, 3) := by decide +kernel
theorem dX9_addNode_25 : decode cX9_addNode 25 = .ok (.ireturn, 1) := by decide +kernel
theorem dX9_addNode_26 : decode cX9_addNode 26 = .ok (.aload_n 0, 1) := by decide +kernel
theorem dX9_addNode_27 : decode cX9_addNode 27 = .ok (.getfield 7, 3) := by decide +kernel
theorem dX9_addNode_30 : decode cX9_addNode 30 = .ok (.bipush 15, 2) := by decide +kernel
theorem dX9_addNode_32 : decode cX9_addNode 32 = .ok (.iaload, 1) := by decide +kernel
theorem dX9_addNode_33 : decode cX9_addNode 33 = .ok (.bipush 8, 2) := by decide +kernel
theorem dX9_addNode_35 : decode cX9_addNode 35 = .ok (.if_icmp .ne 10, 3) := by decide +kernel
theorem dX9_addNode_38 : decode cX9_addNode 38 = .ok (.aload_n 0, 1) := by decide +kernel
theorem dX9_addNode_39 : decode cX9_addNode 39 = .ok (.bipush (-4), 2) := by decide +kernel
theorem dX9_addNode_41 : decode cX9_addNode 41 = .ok (.invokevirtual 27, 3) := by decide +kernel
theorem dX9_addNode_44 : decode cX9_addNode 44 = .ok (.ireturn, 1) := by decide +kernel
theorem dX9_addNode_45 : decode cX9_addNode 45 = .ok (.aload_n 0, 1) := by decide +kernel
theorem dX9_addNode_46 : decode cX9_addNode 46 = .ok (.invokevirtual 138, 3) := by decide +kernel
theorem dX9_addNode_49 : decode cX9_addNode 49 = .ok (.aload_n 0, 1) := by decide +kernel
theorem dX9_addNode_50 : decode cX9_addNode 50 = .ok (.getfield 7, 3) := by decide +kernel
theorem dX9_addNode_53 : decode cX9_addNode 53 = .ok (.bipush 15, 2) := by decide +kernel
theorem dX9_addNode_55 : decode cX9_addNode 55 = .ok (.iaload, 1) := by decide +kernel
theorem dX9_addNode_56 : decode cX9_addNode 56 = .ok (.istore_n 3, 1) := by decide +kernel
theorem dX9_addNode_57 : decode cX9_addNode 57 = .ok (.aload_n 0, 1) := by decide +kernel
theorem dX9_addNode_58 : decode cX9_addNode 58 = .ok (.getfield 7, 3) := by decide +kernel
theorem dX9_addNode_61 : decode cX9_addNode 61 = .ok (.bipush 19, 2) := by decide +kernel
theorem dX9_addNode_63 : decode cX9_addNode 63 = .ok (.iconst 3, 1) := by decide +kernel
theorem dX9_addNode_64 : decode cX9_addNode 64 = .ok (.iload_n 3, 1) := by decide +kernel
theorem dX9_addNode_65 : decode cX9_addNode 65 = .ok (.imul, 1) := by decide +kernel
theorem dX9_addNode_66 : decode cX9_addNode 66 = .ok (.iadd, 1) := by decide +kernel
theorem dX9_addNode_67 : decode cX9_addNode 67 = .ok (.iload_n 1, 1) := by decide +kernel
theorem dX9_addNode_68 : decode cX9_addNode 68 = .ok (.iastore, 1) := by decide +kernel
theorem dX9_addNode_69 : decode cX9_addNode 69 = .ok (.aload_n 0, 1) := by decide +kernel
theorem dX9_addNode_70 : decode cX9_addNode 70 = .ok (.getfield 7, 3) := by decide +kernel
theorem dX9_addNode_73 : decode cX9_addNode 73 = .ok (.bipush 19, 2) := by decide +kernel
theorem dX9_addNode_75 : decode cX9_addNode 75 = .ok (.iconst 3, 1) := by decide +kernel
theorem dX9_addNode_76 : decode cX9_addNode 76 = .ok (.iload_n 3, 1) := by decide +kernel
theorem dX9_addNode_77 : decode cX9_addNode 77 = .ok (.imul, 1) := by decide +kernel
theorem dX9_addNode_78 : decode cX9_addNode 78 = .ok (.iadd, 1) := by decide +kernel
theorem dX9_addNode_79 : decode cX9_addNode 79 = .ok (.iconst 1, 1) := by decide +kernel
theorem dX9_addNode_80 : decode cX9_addNode 80 = .ok (.iadd, 1) := by decide +kernel
theorem dX9_addNode_81 : decode cX9_addNode 81 = .ok (.iload_n 2, 1) := by decide +kernel
theorem dX9_addNode_82 : decode cX9_addNode 82 = .ok (.iastore, 1) := by decide +kernel
theorem dX9_addNode_83 : decode cX9_addNode 83 = .ok (.aload_n 0, 1) := by decide +kernel
theorem dX9_addNode_84 : decode cX9_addNode 84 = .ok (.getfield 7, 3) := by decide +kernel
theorem dX9_addNode_87 : decode cX9_addNode 87 = .ok (.bipush 19, 2) := by decide +kernel
theorem dX9_addNode_89 : decode cX9_addNode 89 = .ok (.iconst 3, 1) := by decide +kernel
theorem dX9_addNode_90 : decode cX9_addNode 90 = .ok (.iload_n 3, 1) := by decide +kernel
theorem dX9_addNode_91 : decode cX9_addNode 91 = .ok (.imul, 1) := by decide +kernel
theorem dX9_addNode_92 : decode cX9_addNode 92 = .ok (.iadd, 1) := by decide +kernel
theorem dX9_addNode_93 : decode cX9_addNode 93 = .ok (.iconst 2, 1) := by decide +kernel
theorem dX9_addNode_94 : decode cX9_addNode 94 = .ok (.iadd, 1) := by decide +kernel
theorem dX9_addNode_95 : decode cX9_addNode 95 = .ok (.iconst 1, 1) := by decide +kernel
theorem dX9_addNode_96 : decode cX9_addNode 96 = .ok (.iastore, 1) := by decide +kernel
theorem dX9_addNode_97 : decode cX9_addNode 97 = .ok (.aload_n 0, 1) := by decide +kernel
theorem dX9_addNode_98 : decode cX9_addNode 98 = .ok (.getfield 7, 3) := by decide +kernel
theorem dX9_addNode_101 : decode cX9_addNode 101 = .ok (.bipush 15, 2) := by decide +kernel
theorem dX9_addNode_103 : decode cX9_addNode 103 = .ok (.dup2, 1) := by decide +kernel
theorem dX9_addNode_104 : decode cX9_addNode 104 = .ok (.iaload, 1) := by decide +kernel
theorem dX9_addNode_105 : decode cX9_addNode 105 = .ok (.iconst 1, 1) := by decide +kernel
theorem dX9_addNode_106 : decode cX9_addNode 106 = .ok (.iadd, 1) := by decide +kernel
theorem dX9_addNode_107 : decode cX9_addNode 107 = .ok (.iastore, 1) := by decide +kernel
theorem dX9_addNode_108 : decode cX9_addNode 108 = .ok (.iload_n 3, 1) := by decide +kernel
theorem dX9_addNode_109 : decode cX9_addNode 109 = .ok (.ireturn, 1) := by decide +kernel
theorem dX9_goDown_0 : decode cX9_goDown 0 = .ok (.iconst 0, 1) := by decide +kernel
theorem dX9_goDown_1 : decode cX9_goDown 1 = .ok (.istore_n 2, 1) := by decide +kernel
theorem dX9_goDown_2 : decode cX9_goDown 2 = .ok (.iload_n 2, 1) := by decide +kernel
theorem dX9_goDown_3 : decode cX9_goDown 3 = .ok (.aload_n 0, 1) := by decide +kernel
theorem dX9_goDown_4 : decode cX9_goDown 4 = .ok (.getfield 7, 3) := by decide +kernel
theorem dX9_goDown_7 : decode cX9_goDown 7 = .ok (.bipush 17, 2) := by decide +kernel
theorem dX9_goDown_9 : decode cX9_goDown 9 = .ok (.iaload, 1) := by decide +kernel
theorem dX9_goDown_10 : decode cX9_goDown 10 = .ok (.if_icmp .ge 24, 3) := by decide +kernel
theorem dX9_goDown_13 : decode cX9_goDown 13 = .ok (.aload_n 0, 1) := by decide +kernel
theorem dX9_goDown_14 : decode cX9_goDown 14 = .ok (.iload_n 2, 1) := by decide +kernel
theorem dX9_goDown_15 : decode cX9_goDown 15 = .ok (.iconst 3, 1) := by decide +kernel
theorem dX9_goDown_16 : decode cX9_goDown 16 = .ok (.invokevirtual 39, 3) := by decide +kernel
theorem dX9_goDown_19 : decode cX9_goDown 19 = .ok (.iload_n 1, 1) := by decide +kernel
theorem dX9_goDown_20 : decode cX9_goDown 20 = .ok (.if_icmp .ne 8, 3) := by decide +kernel
theorem dX9_goDown_23 : decode cX9_goDown 23 = .ok (.aload_n 0, 1) := by decide +kernel
theorem dX9_goDown_24 : decode cX9_goDown 24 = .ok (.iload_n 2, 1) := by decide +kernel
theorem dX9_goDown_25 : decode cX9_goDown 25 = .ok (.invokevirtual 82, 3) := by decide +kernel
theorem dX9_goDown_28 : decode cX9_goDown 28 = .ok (.iinc 2 1, 3) := by decide +kernel
theorem dX9_goDown_31 : decode cX9_goDown 31 = .ok (.goto (-29), 3) := by decide +kernel
theorem dX9_goDown_34 : decode cX9_goDown 34 = .ok (.iconst 0, 1) := by decide +kernel
theorem dX9_goDown_35 : decode cX9_goDown 35 = .ok (.istore_n 2, 1) := by decide +kernel
theorem dX9_goDown_36 : decode cX9_goDown 36 = .ok (.iload_n 2, 1) := by decide +kernel
theorem dX9_goDown_37 : decode cX9_goDown 37 = .ok (.aload_n 0, 1) := by decide +kernel
theorem dX9_goDown_38 : decode cX9_goDown 38 = .ok (.getfield 7, 3) := by decide +kernel
theorem dX9_goDown_41 : decode cX9_goDown 41 = .ok (.bipush 17, 2) := by decide +kernel
theorem dX9_goDown_43 : decode cX9_goDown 43 = .ok (.iaload, 1) := by decide +kernel
theorem dX9_goDown_44 : decode cX9_goDown 44 = .ok (.if_icmp .ge 42, 3) := by decide +kernel
theorem dX9_goDown_47 : decode cX9_goDown 47 = .ok (.aload_n 0, 1) := by decide +kernel
theorem dX9_goDown_48 : decode cX9_goDown 48 = .ok (.iload_n 2, 1) := by decide +kernel
theorem dX9_goDown_49 : decode cX9_goDown 49 = .ok (.invokevirtual 54, 3) := by decide +kernel
theorem dX9_goDown_52 : decode cX9_goDown 52 = .ok (.ifCond .ne 13, 3) := by decide +kernel
theorem dX9_goDown_55 : decode cX9_goDown 55 = .ok (.aload_n 0, 1) := by decide +kernel
theorem dX9_goDown_56 : decode cX9_goDown 56 = .ok (.iload_n 2, 1) := by decide +kernel
theorem dX9_goDown_57 : decode cX9_goDown 57 = .ok (.iconst 2, 1) := by decide +kernel
theorem dX9_goDown_58 : decode cX9_goDown 58 = .ok (.iconst (-1), 1) := by decide +kernel
theorem dX9_goDown_59 : decode cX9_goDown 59 = .ok (.invokevirtual 19, 3) := by decide +kernel
theorem dX9_goDown_62 : decode cX9_goDown 62 = .ok (.goto 18, 3) := by decide +kernel
theorem dX9_goDown_65 : decode cX9_goDown 65 = .ok (.aload_n 0, 1) := by decide +kernel
theorem dX9_goDown_66 : decode cX9_goDown 66 = .ok (.iload_n 2, 1) := by decide +kernel
theorem dX9_goDown_67 : decode cX9_goDown 67 = .ok (.iconst 2, 1) := by decide +kernel
theorem dX9_goDown_68 : decode cX9_goDown 68 = .ok (.invokevirtual 39, 3) := by decide +kernel
theorem dX9_goDown_71 : decode cX9_goDown 71 = .ok (.iload_n 1, 1) := by decide +kernel
theorem dX9_goDown_72 : decode cX9_goDown 72 = .ok (.if_icmp .ne 8, 3) := by decide +kernel
theorem dX9_goDown_75 : decode cX9_goDown 75 = .ok (.aload_n 0, 1) := by decide +kernel
theorem dX9_goDown_76 : decode cX9_goDown 76 = .ok (.iload_n 2, 1) := by decide +kernel
theorem dX9_goDown_77 : decode cX9_goDown 77 = .ok (.invokevirtual 86, 3) := by decide +kernel
theorem dX9_goDown_80 : decode cX9_goDown 80 = .ok (.iinc 2 1, 3) := by decide +kernel
theorem dX9_goDown_83 : decode cX9_goDown 83 = .ok (.goto (-47), 3) := by decide +kernel
theorem dX9_goDown_86 : decode cX9_goDown 86 = .ok (.return_, 1) := by decide +kernel
theorem dX9_goUp_0 : decode cX9_goUp 0 = .ok (.iconst 0, 1) := by decide +kernel
theorem dX9_goUp_1 : decode cX9_goUp 1 = .ok (.istore_n 1, 1) := by decide +kernel
theorem dX9_goUp_2 : decode cX9_goUp 2 = .ok (.iload_n 1, 1) := by decide +kernel
theorem dX9_goUp_3 : decode cX9_goUp 3 = .ok (.aload_n 0, 1) := by decide +kernel
theorem dX9_goUp_4 : decode cX9_goUp 4 = .ok (.getfield 7, 3) := by decide +kernel
theorem dX9_goUp_7 : decode cX9_goUp 7 = .ok (.bipush 17, 2) := by decide +kernel
theorem dX9_goUp_9 : decode cX9_goUp 9 = .ok (.iaload, 1) := by decide +kernel
theorem dX9_goUp_10 : decode cX9_goUp 10 = .ok (.if_icmp .ge 24, 3) := by decide +kernel
theorem dX9_goUp_13 : decode cX9_goUp 13 = .ok (.aload_n 0, 1) := by decide +kernel
theorem dX9_goUp_14 : decode cX9_goUp 14 = .ok (.iload_n 1, 1) := by decide +kernel
theorem dX9_goUp_15 : decode cX9_goUp 15 = .ok (.iconst 2, 1) := by decide +kernel
theorem dX9_goUp_16 : decode cX9_goUp 16 = .ok (.invokevirtual 39, 3) := by decide +kernel
theorem dX9_goUp_19 : decode cX9_goUp 19 = .ok (.iconst (-1), 1) := by decide +kernel
theorem dX9_goUp_20 : decode cX9_goUp 20 = .ok (.if_icmp .ne 8, 3) := by decide +kernel
theorem dX9_goUp_23 : decode cX9_goUp 23 = .ok (.aload_n 0, 1) := by decide +kernel
theorem dX9_goUp_24 : decode cX9_goUp 24 = .ok (.iload_n 1, 1) := by decide +kernel
theorem dX9_goUp_25 : decode cX9_goUp 25 = .ok (.invokevirtual 86, 3) := by decide +kernel
theorem dX9_goUp_28 : decode cX9_goUp 28 = .ok (.iinc 1 1, 3) := by decide +kernel
theorem dX9_goUp_31 : decode cX9_goUp 31 = .ok (.goto (-29), 3) := by decide +kernel
theorem dX9_goUp_34 : decode cX9_goUp 34 = .ok (.return_, 1) := by decide +kernel
theorem dX9_setNode_0 : decode cX9_setNode 0 = .ok (.aload_n 0, 1) := by decide +kernel
theorem dX9_setNode_1 : decode cX9_setNode 1 = .ok (.iload_n 1, 1) := by decide +kernel
theorem dX9_setNode_2 : decode cX9_setNode 2 = .ok (.invokevirtual 148, 3) := by decide +kernel
theorem dX9_setNode_5 : decode cX9_setNode 5 = .ok (.ifCond .eq 12, 3) := by decide +kernel
theorem dX9_setNode_8 : decode cX9_setNode 8 = .ok (.iload_n 2, 1) := by decide +kernel
theorem dX9_setNode_9 : decode cX9_setNode 9 = .ok (.iconst 0, 1) := by decide +kernel
theorem dX9_setNode_10 : decode cX9_setNode 10 = .ok (.iconst 1, 1) := by decide +kernel
theorem dX9_setNode_11 : decode cX9_setNode 11 = .ok (.invokestatic 31, 3) := by decide +kernel
theorem dX9_setNode_14 : decode cX9_setNode 14 = .ok (.ifCond .ne 10, 3) := by decide +kernel
theorem dX9_setNode_17 : decode cX9_setNode 17 = .ok (.aload_n 0, 1) := by decide +kernel
theorem dX9_setNode_18 : decode cX9_setNode 18 = .ok (.bipush (-2), 2) := by decide +kernel
theorem dX9_setNode_20 : decode cX9_setNode 20 = .ok (.invokevirtual 27, 3) := by decide +kernel
theorem dX9_setNode_23 : decode cX9_setNode 23 = .ok (.ireturn, 1) := by decide +kernel
theorem dX9_setNode_24 : decode cX9_setNode 24 = .ok (.aload_n 0, 1) := by decide +kernel
theorem dX9_setNode_25 : decode cX9_setNode 25 = .ok (.iload_n 1, 1) := by decide +kernel
theorem dX9_setNode_26 : decode cX9_setNode 26 = .ok (.invokevirtual 35, 3) := by decide +kernel
theorem dX9_setNode_29 : decode cX9_setNode 29 = .ok (.iload_n 2, 1) := by decide +kernel
theorem dX9_setNode_30 : decode cX9_setNode 30 = .ok (.iconst 1, 1) := by decide +kernel
theorem dX9_setNode_31 : decode cX9_setNode 31 = .ok (.if_icmp .ne 7, 3) := by decide +kernel
theorem dX9_setNode_34 : decode cX9_setNode 34 = .ok (.iconst 1, 1) := by decide +kernel
theorem dX9_setNode_35 : decode cX9_setNode 35 = .ok (.goto 4, 3) := by decide +kernel
theorem dX9_setNode_38 : decode cX9_setNode 38 = .ok (.iconst 0, 1) := by decide +kernel
theorem dX9_setNode_39 : decode cX9_setNode 39 = .ok (.if_icmp .ne 10, 3) := by decide +kernel
theorem dX9_setNode_42 : decode cX9_setNode 42 = .ok (.aload_n 0, 1) := by decide +kernel
theorem dX9_setNode_43 : decode cX9_setNode 43 = .ok (.bipush (-3), 2) := by decide +kernel
theorem dX9_setNode_45 : decode cX9_setNode 45 = .ok (.invokevirtual 27, 3) := by decide +kernel
theorem dX9_setNode_48 : decode cX9_setNode 48 = .ok (.ireturn, 1) := by decide +kernel
theorem dX9_setNode_49 : decode cX9_setNode 49 = .ok (.aload_n 0, 1) := by decide +kernel
theorem dX9_setNode_50 : decode cX9_setNode 50 = .ok (.invokevirtual 138, 3) := by decide +kernel
theorem dX9_setNode_53 : decode cX9_setNode 53 = .ok (.aload_n 0, 1) := by decide +kernel
theorem dX9_setNode_54 : decode cX9_setNode 54 = .ok (.getfield 7, 3) := by decide +kernel
theorem dX9_setNode_57 : decode cX9_setNode 57 = .ok (.bipush 19, 2) := by decide +kernel
theorem dX9_setNode_59 : decode cX9_setNode 59 = .ok (.iconst 3, 1) := by decide +kernel
theorem dX9_setNode_60 : decode cX9_setNode 60 = .ok (.iload_n 1, 1) := by decide +kernel
theorem dX9_setNode_61 : decode cX9_setNode 61 = .ok (.imul, 1) := by decide +kernel
theorem dX9_setNode_62 : decode cX9_setNode 62 = .ok (.iadd, 1) := by decide +kernel
theorem dX9_setNode_63 : decode cX9_setNode 63 = .ok (.iconst 2, 1) := by decide +kernel
theorem dX9_setNode_64 : decode cX9_setNode 64 = .ok (.iadd, 1) := by decide +kernel
theorem dX9_setNode_65 : decode cX9_setNode 65 = .ok (.iload_n 2, 1) := by decide +kernel
theorem dX9_setNode_66 : decode cX9_setNode 66 = .ok (.iastore, 1) := by decide +kernel
theorem dX9_setNode_67 : decode cX9_setNode 67 = .ok (.iload_n 2, 1) := by decide +kernel
theorem dX9_setNode_68 : decode cX9_setNode 68 = .ok (.iconst 1, 1) := by decide +kernel
theorem dX9_setNode_69 : decode cX9_setNode 69 = .ok (.if_icmp .ne 10, 3) := by decide +kernel
theorem dX9_setNode_72 : decode cX9_setNode 72 = .ok (.aload_n 0, 1) := by decide +kernel
theorem dX9_setNode_73 : decode cX9_setNode 73 = .ok (.invokevirtual 151, 3) := by decide +kernel
theorem dX9_setNode_76 : decode cX9_setNode 76 = .ok (.goto 8, 3) := by decide +kernel
theorem dX9_setNode_79 : decode cX9_setNode 79 = .ok (.aload_n 0, 1) := by decide +kernel
theorem dX9_setNode_80 : decode cX9_setNode 80 = .ok (.iload_n 1, 1) := by decide +kernel
theorem dX9_setNode_81 : decode cX9_setNode 81 = .ok (.invokevirtual 154, 3) := by decide +kernel
theorem dX9_setNode_84 : decode cX9_setNode 84 = .ok (.iconst 0, 1) := by decide +kernel
theorem dX9_setNode_85 : decode cX9_setNode 85 = .ok (.istore_n 3, 1) := by decide +kernel
theorem dX9_setNode_86 : decode cX9_setNode 86 = .ok (.iconst 0, 1) := by decide +kernel
theorem dX9_setNode_87 : decode cX9_setNode 87 = .ok (.istore 4, 2) := by decide +kernel
theorem dX9_setNode_89 : decode cX9_setNode 89 = .ok (.iload 4, 2) := by decide +kernel
theorem dX9_setNode_91 : decode cX9_setNode 91 = .ok (.aload_n 0, 1) := by decide +kernel
theorem dX9_setNode_92 : decode cX9_setNode 92 = .ok (.getfield 7, 3) := by decide +kernel
theorem dX9_setNode_95 : decode cX9_setNode 95 = .ok (.bipush 17, 2) := by decide +kernel
theorem dX9_setNode_97 : decode cX9_setNode 97 = .ok (.iaload, 1) := by decide +kernel
theorem dX9_setNode_98 : decode cX9_setNode 98 = .ok (.if_icmp .ge 26, 3) := by decide +kernel
theorem dX9_setNode_101 : decode cX9_setNode 101 = .ok (.iload_n 3, 1) := by decide +kernel
theorem dX9_setNode_102 : decode cX9_setNode 102 = .ok (.aload_n 0, 1) := by decide +kernel
theorem dX9_setNode_103 : decode cX9_setNode 103 = .ok (.iload 4, 2) := by decide +kernel
theorem dX9_setNode_105 : decode cX9_setNode 105 = .ok (.invokevirtual 54, 3) := by decide +kernel
theorem dX9_setNode_108 : decode cX9_setNode 108 = .ok (.ifCond .eq 7, 3) := by decide +kernel
theorem dX9_setNode_111 : decode cX9_setNode 111 = .ok (.iconst 1, 1) := by decide +kernel
theorem dX9_setNode_112 : decode cX9_setNode 112 = .ok (.goto 4, 3) := by decide +kernel
theorem dX9_setNode_115 : decode cX9_setNode 115 = .ok (.iconst 0, 1) := by decide +kernel
theorem dX9_setNode_116 : decode cX9_setNode 116 = .ok (.iadd, 1) := by decide +kernel
theorem dX9_setNode_117 : decode cX9_setNode 117 = .ok (.istore_n 3, 1) := by decide +kernel
theorem dX9_setNode_118 : decode cX9_setNode 118 = .ok (.iinc 4 1, 3) := by decide +kernel
theorem dX9_setNode_121 : decode cX9_setNode 121 = .ok (.goto (-32), 3) := by decide +kernel
theorem dX9_setNode_124 : decode cX9_setNode 124 = .ok (.iload_n 3, 1) := by decide +kernel
theorem dX9_setNode_125 : decode cX9_setNode 125 = .ok (.ireturn, 1) := by decide +kernel
theorem dX9_change_0 : decode cX9_change 0 = .ok (.aload_n 0, 1) := by decide +kernel
theorem dX9_change_1 : decode cX9_change 1 = .ok (.invokevirtual 138, 3) := by decide +kernel
theorem dX9_change_4 : decode cX9_change 4 = .ok (.aload_n 0, 1) := by decide +kernel
theorem dX9_change_5 : decode cX9_change 5 = .ok (.getfield 7, 3) := by decide +kernel
theorem dX9_change_8 : decode cX9_change 8 = .ok (.iload_n 1, 1) := by decide +kernel
theorem dX9_change_9 : decode cX9_change 9 = .ok (.iaload, 1) := by decide +kernel
theorem dX9_change_10 : decode cX9_change 10 = .ok (.istore_n 3, 1) := by decide +kernel
theorem dX9_change_11 : decode cX9_change 11 = .ok (.aload_n 0, 1) := by decide +kernel
theorem dX9_change_12 : decode cX9_change 12 = .ok (.getfield 7, 3) := by decide +kernel
theorem dX9_change_15 : decode cX9_change 15 = .ok (.iload_n 1, 1) := by decide +kernel
theorem dX9_change_16 : decode cX9_change 16 = .ok (.iload_n 2, 1) := by decide +kernel
theorem dX9_change_17 : decode cX9_change 17 = .ok (.iastore, 1) := by decide +kernel
theorem dX9_change_18 : decode cX9_change 18 = .ok (.iload_n 3, 1) := by decide +kernel
theorem dX9_change_19 : decode cX9_change 19 = .ok (.ireturn, 1) := by decide +kernel
theorem dX9_setReplication_0 : decode cX9_setReplication 0 = .ok (.iload_n 1, 1) := by decide +kernel
theorem dX9_setReplication_1 : decode cX9_setReplication 1 = .ok (.iconst 1, 1) := by decide +kernel
theorem dX9_setReplication_2 : decode cX9_setReplication 2 = .ok (.iconst 5, 1) := by decide +kernel
theorem dX9_setReplication_3 : decode cX9_setReplication 3 = .ok (.invokestatic 31, 3) := by decide +kernel
theorem dX9_setReplication_6 : decode cX9_setReplication 6 = .ok (.ifCond .eq 12, 3) := by decide +kernel
theorem dX9_setReplication_9 : decode cX9_setReplication 9 = .ok (.aload_n 0, 1) := by decide +kernel
theorem dX9_setReplication_10 : decode cX9_setReplication 10 = .ok (.iconst 0, 1) := by decide +kernel
theorem dX9_setReplication_11 : decode cX9_setReplication 11 = .ok (.iload_n 1, 1) := by decide +kernel
theorem dX9_setReplication_12 : decode cX9_setReplication 12 = .ok (.invokevirtual 157, 3) := by decide +kernel
theorem dX9_setReplication_15 : decode cX9_setReplication 15 = .ok (.goto 9, 3) := by decide +kernel
theorem dX9_setReplication_18 : decode cX9_setReplication 18 = .ok (.aload_n 0, 1) := by decide +kernel
theorem dX9_setReplication_19 : decode cX9_setReplication 19 = .ok (.bipush (-2), 2) := by decide +kernel
theorem dX9_setReplication_21 : decode cX9_setReplication 21 = .ok (.invokevirtual 27, 3) := by decide +kernel
theorem dX9_setReplication_24 : decode cX9_setReplication 24 = .ok (.ireturn, 1) := by decide +kernel
theorem dX9_setSizes_0 : decode cX9_setSizes 0 = .ok (.iload_n 2, 1) := by decide +kernel
theorem dX9_setSizes_1 : decode cX9_setSizes 1 = .ok (.iconst 1, 1) := by decide +kernel
theorem dX9_setSizes_2 : decode cX9_setSizes 2 = .ok (.sipush 9999, 3) := by decide +kernel
theorem dX9_setSizes_5 : decode cX9_setSizes 5 = .ok (.invokestatic 31, 3) := by decide +kernel
theorem dX9_setSizes_8 : decode cX9_setSizes 8 = .ok (.ifCond .eq 12, 3) := by decide +kernel
theorem dX9_setSizes_11 : decode cX9_setSizes 11 = .ok (.iload_n 1, 1) := by decide +kernel
theorem dX9_setSizes_12 : decode cX9_setSizes 12 = .ok (.iconst 0, 1) := by decide +kernel
theorem dX9_setSizes_13 : decode cX9_setSizes 13 = .ok (.iload_n 2, 1) := by decide +kernel
theorem dX9_setSizes_14 : decode cX9_setSizes 14 = .ok (.invokestatic 31, 3) := by decide +kernel
theorem dX9_setSizes_17 : decode cX9_setSizes 17 = .ok (.ifCond .ne 10, 3) := by decide +kernel
theorem dX9_setSizes_20 : decode cX9_setSizes 20 = .ok (.aload_n 0, 1) := by decide +kernel
theorem dX9_setSizes_21 : decode cX9_setSizes 21 = .ok (.bipush (-2), 2) := by decide +kernel
theorem dX9_setSizes_23 : decode cX9_setSizes 23 = .ok (.invokevirtual 27, 3) := by decide +kernel
theorem dX9_setSizes_26 : decode cX9_setSizes 26 = .ok (.ireturn, 1) := by decide +kernel
theorem dX9_setSizes_27 : decode cX9_setSizes 27 = .ok (.aload_n 0, 1) := by decide +kernel
theorem dX9_setSizes_28 : decode cX9_setSizes 28 = .ok (.iconst 2, 1) := by decide +kernel
theorem dX9_setSizes_29 : decode cX9_setSizes 29 = .ok (.iload_n 2, 1) := by decide +kernel
theorem dX9_setSizes_30 : decode cX9_setSizes 30 = .ok (.invokevirtual 157, 3) := by decide +kernel
theorem dX9_setSizes_33 : decode cX9_setSizes 33 = .ok (.istore_n 3, 1) := by decide +kernel
theorem dX9_setSizes_34 : decode cX9_setSizes 34 = .ok (.aload_n 0, 1) := by decide +kernel
theorem dX9_setSizes_35 : decode cX9_setSizes 35 = .ok (.getfield 7, 3) := by decide +kernel
theorem dX9_setSizes_38 : decode cX9_setSizes 38 = .ok (.iconst 1, 1) := by decide +kernel
theorem dX9_setSizes_39 : decode cX9_setSizes 39 = .ok (.iload_n 1, 1) := by decide +kernel
theorem dX9_setSizes_40 : decode cX9_setSizes 40 = .ok (.iastore, 1) := by decide +kernel
theorem dX9_setSizes_41 : decode cX9_setSizes 41 = .ok (.iload_n 3, 1) := by decide +kernel
theorem dX9_setSizes_42 : decode cX9_setSizes 42 = .ok (.ireturn, 1) := by decide +kernel
theorem dX9_setLoads_0 : decode cX9_setLoads 0 = .ok (.iload_n 2, 1) := by decide +kernel
theorem dX9_setLoads_1 : decode cX9_setLoads 1 = .ok (.iconst 1, 1) := by decide +kernel
theorem dX9_setLoads_2 : decode cX9_setLoads 2 = .ok (.bipush 32, 2) := by decide +kernel
theorem dX9_setLoads_4 : decode cX9_setLoads 4 = .ok (.invokestatic 31, 3) := by decide +kernel
theorem dX9_setLoads_7 : decode cX9_setLoads 7 = .ok (.ifCond .eq 12, 3) := by decide +kernel
theorem dX9_setLoads_10 : decode cX9_setLoads 10 = .ok (.iload_n 1, 1) := by decide +kernel
theorem dX9_setLoads_11 : decode cX9_setLoads 11 = .ok (.iconst 0, 1) := by decide +kernel
theorem dX9_setLoads_12 : decode cX9_setLoads 12 = .ok (.iload_n 2, 1) := by decide +kernel
theorem dX9_setLoads_13 : decode cX9_setLoads 13 = .ok (.invokestatic 31, 3) := by decide +kernel
theorem dX9_setLoads_16 : decode cX9_setLoads 16 = .ok (.ifCond .ne 10, 3) := by decide +kernel
theorem dX9_setLoads_19 : decode cX9_setLoads 19 = .ok (.aload_n 0, 1) := by decide +kernel
theorem dX9_setLoads_20 : decode cX9_setLoads 20 = .ok (.bipush (-2), 2) := by decide +kernel
theorem dX9_setLoads_22 : decode cX9_setLoads 22 = .ok (.invokevirtual 27, 3) := by decide +kernel
theorem dX9_setLoads_25 : decode cX9_setLoads 25 = .ok (.ireturn, 1) := by decide +kernel
theorem dX9_setLoads_26 : decode cX9_setLoads 26 = .ok (.aload_n 0, 1) := by decide +kernel
theorem dX9_setLoads_27 : decode cX9_setLoads 27 = .ok (.iconst 4, 1) := by decide +kernel
theorem dX9_setLoads_28 : decode cX9_setLoads 28 = .ok (.iload_n 2, 1) := by decide +kernel
theorem dX9_setLoads_29 : decode cX9_setLoads 29 = .ok (.invokevirtual 157, 3) := by decide +kernel
theorem dX9_setLoads_32 : decode cX9_setLoads 32 = .ok (.istore_n 3, 1) := by decide +kernel
theorem dX9_setLoads_33 : decode cX9_setLoads 33 = .ok (.aload_n 0, 1) := by decide +kernel
theorem dX9_setLoads_34 : decode cX9_setLoads 34 = .ok (.getfield 7, 3) := by decide +kernel
theorem dX9_setLoads_37 : decode cX9_setLoads 37 = .ok (.iconst 3, 1) := by decide +kernel
theorem dX9_setLoads_38 : decode cX9_setLoads 38 = .ok (.iload_n 1, 1) := by decide +kernel
theorem dX9_setLoads_39 : decode cX9_setLoads 39 = .ok (.iastore, 1) := by decide +kernel
theorem dX9_setLoads_40 : decode cX9_setLoads 40 = .ok (.iload_n 3, 1) := by decide +kernel
theorem dX9_setLoads_41 : decode cX9_setLoads 41 = .ok (.ireturn, 1) := by decide +kernel
theorem dX9_setSpeed_0 : decode cX9_setSpeed 0 = .ok (.iload_n 1, 1) := by decide +kernel
theorem dX9_setSpeed_1 : decode cX9_setSpeed 1 = .ok (.iconst 1, 1) := by decide +kernel
theorem dX9_setSpeed_2 : decode cX9_setSpeed 2 = .ok (.bipush 99, 2) := by decide +kernel
theorem dX9_setSpeed_4 : decode cX9_setSpeed 4 = .ok (.invokestatic 31, 3) := by decide +kernel
theorem dX9_setSpeed_7 : decode cX9_setSpeed 7 = .ok (.ifCond .eq 12, 3) := by decide +kernel
theorem dX9_setSpeed_10 : decode cX9_setSpeed 10 = .ok (.aload_n 0, 1) := by decide +kernel
theorem dX9_setSpeed_11 : decode cX9_setSpeed 11 = .ok (.iconst 5, 1) := by decide +kernel
theorem dX9_setSpeed_12 : decode cX9_setSpeed 12 = .ok (.iload_n 1, 1) := by decide +kernel
theorem dX9_setSpeed_13 : decode cX9_setSpeed 13 = .ok (.invokevirtual 157, 3) := by decide +kernel
theorem dX9_setSpeed_16 : decode cX9_setSpeed 16 = .ok (.goto 9, 3) := by decide +kernel
theorem dX9_setSpeed_19 : decode cX9_setSpeed 19 = .ok (.aload_n 0, 1) := by decide +kernel
theorem dX9_setSpeed_20 : decode cX9_setSpeed 20 = .ok (.bipush (-2), 2) := by decide +kernel
theorem dX9_setSpeed_22 : decode cX9_setSpeed 22 = .ok (.invokevirtual 27, 3) := by decide +kernel
theorem dX9_setSpeed_25 : decode cX9_setSpeed 25 = .ok (.ireturn, 1) := by decide +kernel
theorem dX9_put_0 : decode cX9_put 0 = .ok (.iload_n 1, 1) := by decide +kernel
theorem dX9_put_1 : decode cX9_put 1 = .ok (.invokestatic 160, 3) := by decide +kernel
theorem dX9_put_4 : decode cX9_put 4 = .ok (.ifCond .eq 13, 3) := by decide +kernel
theorem dX9_put_7 : decode cX9_put 7 = .ok (.iload_n 2, 1) := by decide +kernel
theorem dX9_put_8 : decode cX9_put 8 = .ok (.iconst 1, 1) := by decide +kernel
theorem dX9_put_9 : decode cX9_put 9 = .ok (.bipush 99, 2) := by decide +kernel
theorem dX9_put_11 : decode cX9_put 11 = .ok (.invokestatic 31, 3) := by decide +kernel
theorem dX9_put_14 : decode cX9_put 14 = .ok (.ifCond .ne 10, 3) := by decide +kernel
theorem dX9_put_17 : decode cX9_put 17 = .ok (.aload_n 0, 1) := by decide +kernel
theorem dX9_put_18 : decode cX9_put 18 = .ok (.bipush (-2), 2) := by decide +kernel
theorem dX9_put_20 : decode cX9_put 20 = .ok (.invokevirtual 27, 3) := by decide +kernel
theorem dX9_put_23 : decode cX9_put 23 = .ok (.ireturn, 1) := by decide +kernel
theorem dX9_put_24 : decode cX9_put 24 = .ok (.aload_n 0, 1) := by decide +kernel
theorem dX9_put_25 : decode cX9_put 25 = .ok (.iload_n 1, 1) := by decide +kernel
theorem dX9_put_26 : decode cX9_put 26 = .ok (.invokevirtual 163, 3) := by decide +kernel
theorem dX9_put_29 : decode cX9_put 29 = .ok (.istore_n 3, 1) := by decide +kernel
theorem dX9_put_30 : decode cX9_put 30 = .ok (.iload_n 3, 1) := by decide +kernel
theorem dX9_put_31 : decode cX9_put 31 = .ok (.iconst (-1), 1) := by decide +kernel
theorem dX9_put_32 : decode cX9_put 32 = .ok (.if_icmp .ne 22, 3) := by decide +kernel
theorem dX9_put_35 : decode cX9_put 35 = .ok (.aload_n 0, 1) := by decide +kernel
theorem dX9_put_36 : decode cX9_put 36 = .ok (.getfield 7, 3) := by decide +kernel
theorem dX9_put_39 : decode cX9_put 39 = .ok (.bipush 16, 2) := by decide +kernel
theorem dX9_put_41 : decode cX9_put 41 = .ok (.iaload, 1) := by decide +kernel
theorem dX9_put_42 : decode cX9_put 42 = .ok (.bipush 64, 2) := by decide +kernel
theorem dX9_put_44 : decode cX9_put 44 = .ok (.if_icmp .ne 10, 3) := by decide +kernel
theorem dX9_put_47 : decode cX9_put 47 = .ok (.aload_n 0, 1) := by decide +kernel
theorem dX9_put_48 : decode cX9_put 48 = .ok (.bipush (-4), 2) := by decide +kernel
theorem dX9_put_50 : decode cX9_put 50 = .ok (.invokevirtual 27, 3) := by decide +kernel
theorem dX9_put_53 : decode cX9_put 53 = .ok (.ireturn, 1) := by decide +kernel
theorem dX9_put_54 : decode cX9_put 54 = .ok (.aload_n 0, 1) := by decide +kernel
theorem dX9_put_55 : decode cX9_put 55 = .ok (.invokevirtual 138, 3) := by decide +kernel
theorem dX9_put_58 : decode cX9_put 58 = .ok (.iload_n 3, 1) := by decide +kernel
theorem dX9_put_59 : decode cX9_put 59 = .ok (.iconst (-1), 1) := by decide +kernel
theorem dX9_put_60 : decode cX9_put 60 = .ok (.if_icmp .eq 25, 3) := by decide +kernel
theorem dX9_put_63 : decode cX9_put 63 = .ok (.aload_n 0, 1) := by decide +kernel
theorem dX9_put_64 : decode cX9_put 64 = .ok (.getfield 7, 3) := by decide +kernel
theorem dX9_put_67 : decode cX9_put 67 = .ok (.iload_n 3, 1) := by decide +kernel
theorem dX9_put_68 : decode cX9_put 68 = .ok (.iconst 1, 1) := by decide +kernel
theorem dX9_put_69 : decode cX9_put 69 = .ok (.iadd, 1) := by decide +kernel
theorem dX9_put_70 : decode cX9_put 70 = .ok (.iaload, 1) := by decide +kernel
theorem dX9_put_71 : decode cX9_put 71 = .ok (.istore 4, 2) := by decide +kernel
theorem dX9_put_73 : decode cX9_put 73 = .ok (.aload_n 0, 1) := by decide +kernel
theorem dX9_put_74 : decode cX9_put 74 = .ok (.getfield 7, 3) := by decide +kernel
theorem dX9_put_77 : decode cX9_put 77 = .ok (.iload_n 3, 1) := by decide +kernel
theorem dX9_put_78 : decode cX9_put 78 = .ok (.iconst 1, 1) := by decide +kernel
theorem dX9_put_79 : decode cX9_put 79 = .ok (.iadd, 1) := by decide +kernel
theorem dX9_put_80 : decode cX9_put 80 = .ok (.iload_n 2, 1) := by decide +kernel
theorem dX9_put_81 : decode cX9_put 81 = .ok (.iastore, 1) := by decide +kernel
theorem dX9_put_82 : decode cX9_put 82 = .ok (.iload 4, 2) := by decide +kernel
theorem dX9_put_84 : decode cX9_put 84 = .ok (.ireturn, 1) := by decide +kernel
theorem dX9_put_85 : decode cX9_put 85 = .ok (.aload_n 0, 1) := by decide +kernel
theorem dX9_put_86 : decode cX9_put 86 = .ok (.getfield 7, 3) := by decide +kernel
theorem dX9_put_89 : decode cX9_put 89 = .ok (.bipush 43, 2) := by decide +kernel
theorem dX9_put_91 : decode cX9_put 91 = .ok (.iconst 2, 1) := by decide +kernel
theorem dX9_put_92 : decode cX9_put 92 = .ok (.aload_n 0, 1) := by decide +kernel
theorem dX9_put_93 : decode cX9_put 93 = .ok (.getfield 7, 3) := by decide +kernel
theorem dX9_put_96 : decode cX9_put 96 = .ok (.bipush 16, 2) := by decide +kernel
theorem dX9_put_98 : decode cX9_put 98 = .ok (.iaload, 1) := by decide +kernel
theorem dX9_put_99 : decode cX9_put 99 = .ok (.imul, 1) := by decide +kernel
theorem dX9_put_100 : decode cX9_put 100 = .ok (.iadd, 1) := by decide +kernel
theorem dX9_put_101 : decode cX9_put 101 = .ok (.iload_n 1, 1) := by decide +kernel
theorem dX9_put_102 : decode cX9_put 102 = .ok (.iastore, 1) := by decide +kernel
theorem dX9_put_103 : decode cX9_put 103 = .ok (.aload_n 0, 1) := by decide +kernel
theorem dX9_put_104 : decode cX9_put 104 = .ok (.getfield 7, 3) := by decide +kernel
theorem dX9_put_107 : decode cX9_put 107 = .ok (.bipush 43, 2) := by decide +kernel
theorem dX9_put_109 : decode cX9_put 109 = .ok (.iconst 2, 1) := by decide +kernel
theorem dX9_put_110 : decode cX9_put 110 = .ok (.aload_n 0, 1) := by decide +kernel
theorem dX9_put_111 : decode cX9_put 111 = .ok (.getfield 7, 3) := by decide +kernel
theorem dX9_put_114 : decode cX9_put 114 = .ok (.bipush 16, 2) := by decide +kernel
theorem dX9_put_116 : decode cX9_put 116 = .ok (.iaload, 1) := by decide +kernel
theorem dX9_put_117 : decode cX9_put 117 = .ok (.imul, 1) := by decide +kernel
theorem dX9_put_118 : decode cX9_put 118 = .ok (.iadd, 1) := by decide +kernel
theorem dX9_put_119 : decode cX9_put 119 = .ok (.iconst 1, 1) := by decide +kernel
theorem dX9_put_120 : decode cX9_put 120 = .ok (.iadd, 1) := by decide +kernel
theorem dX9_put_121 : decode cX9_put 121 = .ok (.iload_n 2, 1) := by decide +kernel
theorem dX9_put_122 : decode cX9_put 122 = .ok (.iastore, 1) := by decide +kernel
theorem dX9_put_123 : decode cX9_put 123 = .ok (.aload_n 0, 1) := by decide +kernel
theorem dX9_put_124 : decode cX9_put 124 = .ok (.getfield 7, 3) := by decide +kernel
theorem dX9_put_127 : decode cX9_put 127 = .ok (.bipush 16, 2) := by decide +kernel
theorem dX9_put_129 : decode cX9_put 129 = .ok (.dup2, 1) := by decide +kernel
theorem dX9_put_130 : decode cX9_put 130 = .ok (.iaload, 1) := by decide +kernel
theorem dX9_put_131 : decode cX9_put 131 = .ok (.iconst 1, 1) := by decide +kernel
theorem dX9_put_132 : decode cX9_put 132 = .ok (.iadd, 1) := by decide +kernel
theorem dX9_put_133 : decode cX9_put 133 = .ok (.iastore, 1) := by decide +kernel
theorem dX9_put_134 : decode cX9_put 134 = .ok (.iconst 0, 1) := by decide +kernel
theorem dX9_put_135 : decode cX9_put 135 = .ok (.ireturn, 1) := by decide +kernel
theorem dX9_remove_0 : decode cX9_remove 0 = .ok (.iload_n 1, 1) := by decide +kernel
theorem dX9_remove_1 : decode cX9_remove 1 = .ok (.invokestatic 160, 3) := by decide +kernel
theorem dX9_remove_4 : decode cX9_remove 4 = .ok (.ifCond .ne 10, 3) := by decide +kernel
theorem dX9_remove_7 : decode cX9_remove 7 = .ok (.aload_n 0, 1) := by decide +kernel
theorem dX9_remove_8 : decode cX9_remove 8 = .ok (.bipush (-2), 2) := by decide +kernel
theorem dX9_remove_10 : decode cX9_remove 10 = .ok (.invokevirtual 27, 3) := by decide +kernel
theorem dX9_remove_13 : decode cX9_remove 13 = .ok (.ireturn, 1) := by decide +kernel
theorem dX9_remove_14 : decode cX9_remove 14 = .ok (.aload_n 0, 1) := by decide +kernel
theorem dX9_remove_15 : decode cX9_remove 15 = .ok (.iload_n 1, 1) := by decide +kernel
theorem dX9_remove_16 : decode cX9_remove 16 = .ok (.invokevirtual 163, 3) := by decide +kernel
theorem dX9_remove_19 : decode cX9_remove 19 = .ok (.istore_n 2, 1) := by decide +kernel
theorem dX9_remove_20 : decode cX9_remove 20 = .ok (.iload_n 2, 1) := by decide +kernel
theorem dX9_remove_21 : decode cX9_remove 21 = .ok (.iconst (-1), 1) := by decide +kernel
theorem dX9_remove_22 : decode cX9_remove 22 = .ok (.if_icmp .ne 10, 3) := by decide +kernel
theorem dX9_remove_25 : decode cX9_remove 25 = .ok (.aload_n 0, 1) := by decide +kernel
theorem dX9_remove_26 : decode cX9_remove 26 = .ok (.bipush (-3), 2) := by decide +kernel
theorem dX9_remove_28 : decode cX9_remove 28 = .ok (.invokevirtual 27, 3) := by decide +kernel
theorem dX9_remove_31 : decode cX9_remove 31 = .ok (.ireturn, 1) := by decide +kernel
theorem dX9_remove_32 : decode cX9_remove 32 = .ok (.aload_n 0, 1) := by decide +kernel
theorem dX9_remove_33 : decode cX9_remove 33 = .ok (.invokevirtual 138, 3) := by decide +kernel
theorem dX9_remove_36 : decode cX9_remove 36 = .ok (.aload_n 0, 1) := by decide +kernel
theorem dX9_remove_37 : decode cX9_remove 37 = .ok (.getfield 7, 3) := by decide +kernel
theorem dX9_remove_40 : decode cX9_remove 40 = .ok (.iload_n 2, 1) := by decide +kernel
theorem dX9_remove_41 : decode cX9_remove 41 = .ok (.iconst 1, 1) := by decide +kernel
theorem dX9_remove_42 : decode cX9_remove 42 = .ok (.iadd, 1) := by decide +kernel
theorem dX9_remove_43 : decode cX9_remove 43 = .ok (.iaload, 1) := by decide +kernel
theorem dX9_remove_44 : decode cX9_remove 44 = .ok (.istore_n 3, 1) := by decide +kernel
theorem dX9_remove_45 : decode cX9_remove 45 = .ok (.iload_n 2, 1) := by decide +kernel
theorem dX9_remove_46 : decode cX9_remove 46 = .ok (.istore 4, 2) := by decide +kernel
theorem dX9_remove_48 : decode cX9_remove 48 = .ok (.iload 4, 2) := by decide +kernel
theorem dX9_remove_50 : decode cX9_remove 50 = .ok (.iconst 2, 1) := by decide +kernel
theorem dX9_remove_51 : decode cX9_remove 51 = .ok (.iadd, 1) := by decide +kernel
theorem dX9_remove_52 : decode cX9_remove 52 = .ok (.sipush 171, 3) := by decide +kernel
theorem dX9_remove_55 : decode cX9_remove 55 = .ok (.if_icmp .ge 25, 3) := by decide +kernel
theorem dX9_remove_58 : decode cX9_remove 58 = .ok (.aload_n 0, 1) := by decide +kernel
theorem dX9_remove_59 : decode cX9_remove 59 = .ok (.getfield 7, 3) := by decide +kernel
theorem dX9_remove_62 : decode cX9_remove 62 = .ok (.iload 4, 2) := by decide +kernel
theorem dX9_remove_64 : decode cX9_remove 64 = .ok (.aload_n 0, 1) := by decide +kernel
theorem dX9_remove_65 : decode cX9_remove 65 = .ok (.getfield 7, 3) := by decide +kernel
theorem dX9_remove_68 : decode cX9_remove 68 = .ok (.iload 4, 2) := by decide +kernel
theorem dX9_remove_70 : decode cX9_remove 70 = .ok (.iconst 2, 1) := by decide +kernel
theorem dX9_remove_71 : decode cX9_remove 71 = .ok (.iadd, 1) := by decide +kernel
theorem dX9_remove_72 : decode cX9_remove 72 = .ok (.iaload, 1) := by decide +kernel
theorem dX9_remove_73 : decode cX9_remove 73 = .ok (.iastore, 1) := by decide +kernel
theorem dX9_remove_74 : decode cX9_remove 74 = .ok (.iinc 4 1, 3) := by decide +kernel
theorem dX9_remove_77 : decode cX9_remove 77 = .ok (.goto (-29), 3) := by decide +kernel
theorem dX9_remove_80 : decode cX9_remove 80 = .ok (.aload_n 0, 1) := by decide +kernel
theorem dX9_remove_81 : decode cX9_remove 81 = .ok (.getfield 7, 3) := by decide +kernel
theorem dX9_remove_84 : decode cX9_remove 84 = .ok (.bipush 16, 2) := by decide +kernel
theorem dX9_remove_86 : decode cX9_remove 86 = .ok (.dup2, 1) := by decide +kernel
theorem dX9_remove_87 : decode cX9_remove 87 = .ok (.iaload, 1) := by decide +kernel
theorem dX9_remove_88 : decode cX9_remove 88 = .ok (.iconst 1, 1) := by decide +kernel
theorem dX9_remove_89 : decode cX9_remove 89 = .ok (.isub, 1) := by decide +kernel
theorem dX9_remove_90 : decode cX9_remove 90 = .ok (.iastore, 1) := by decide +kernel
theorem dX9_remove_91 : decode cX9_remove 91 = .ok (.iload_n 3, 1) := by decide +kernel
theorem dX9_remove_92 : decode cX9_remove 92 = .ok (.ireturn, 1) := by decide +kernel
theorem dX9_access_0 : decode cX9_access 0 = .ok (.iload_n 1, 1) := by decide +kernel
theorem dX9_access_1 : decode cX9_access 1 = .ok (.invokestatic 160, 3) := by decide +kernel
theorem dX9_access_4 : decode cX9_access 4 = .ok (.ifCond .ne 10, 3) := by decide +kernel
theorem dX9_access_7 : decode cX9_access 7 = .ok (.aload_n 0, 1) := by decide +kernel
theorem dX9_access_8 : decode cX9_access 8 = .ok (.bipush (-2), 2) := by decide +kernel
theorem dX9_access_10 : decode cX9_access 10 = .ok (.invokevirtual 27, 3) := by decide +kernel
theorem dX9_access_13 : decode cX9_access 13 = .ok (.ireturn, 1) := by decide +kernel
theorem dX9_access_14 : decode cX9_access 14 = .ok (.aload_n 0, 1) := by decide +kernel
theorem dX9_access_15 : decode cX9_access 15 = .ok (.invokevirtual 138, 3) := by decide +kernel
theorem dX9_access_18 : decode cX9_access 18 = .ok (.aload_n 0, 1) := by decide +kernel
theorem dX9_access_19 : decode cX9_access 19 = .ok (.getfield 7, 3) := by decide +kernel
theorem dX9_access_22 : decode cX9_access 22 = .ok (.bipush 18, 2) := by decide +kernel
theorem dX9_access_24 : decode cX9_access 24 = .ok (.iaload, 1) := by decide +kernel
theorem dX9_access_25 : decode cX9_access 25 = .ok (.bipush 32, 2) := by decide +kernel
theorem dX9_access_27 : decode cX9_access 27 = .ok (.if_icmp .ne 47, 3) := by decide +kernel
theorem dX9_access_30 : decode cX9_access 30 = .ok (.sipush 267, 3) := by decide +kernel
theorem dX9_access_33 : decode cX9_access 33 = .ok (.istore_n 2, 1) := by decide +kernel
theorem dX9_access_34 : decode cX9_access 34 = .ok (.iload_n 2, 1) := by decide +kernel
theorem dX9_access_35 : decode cX9_access 35 = .ok (.iconst 1, 1) := by decide +kernel
theorem dX9_access_36 : decode cX9_access 36 = .ok (.iadd, 1) := by decide +kernel
theorem dX9_access_37 : decode cX9_access 37 = .ok (.sipush 299, 3) := by decide +kernel
theorem dX9_access_40 : decode cX9_access 40 = .ok (.if_icmp .ge 23, 3) := by decide +kernel
theorem dX9_access_43 : decode cX9_access 43 = .ok (.aload_n 0, 1) := by decide +kernel
theorem dX9_access_44 : decode cX9_access 44 = .ok (.getfield 7, 3) := by decide +kernel
theorem dX9_access_47 : decode cX9_access 47 = .ok (.iload_n 2, 1) := by decide +kernel
theorem dX9_access_48 : decode cX9_access 48 = .ok (.aload_n 0, 1) := by decide +kernel
theorem dX9_access_49 : decode cX9_access 49 = .ok (.getfield 7, 3) := by decide +kernel
theorem dX9_access_52 : decode cX9_access 52 = .ok (.iload_n 2, 1) := by decide +kernel
theorem dX9_access_53 : decode cX9_access 53 = .ok (.iconst 1, 1) := by decide +kernel
theorem dX9_access_54 : decode cX9_access 54 = .ok (.iadd, 1) := by decide +kernel
theorem dX9_access_55 : decode cX9_access 55 = .ok (.iaload, 1) := by decide +kernel
theorem dX9_access_56 : decode cX9_access 56 = .ok (.iastore, 1) := by decide +kernel
theorem dX9_access_57 : decode cX9_access 57 = .ok (.iinc 2 1, 3) := by decide +kernel
theorem dX9_access_60 : decode cX9_access 60 = .ok (.goto (-26), 3) := by decide +kernel
theorem dX9_access_63 : decode cX9_access 63 = .ok (.aload_n 0, 1) := by decide +kernel
theorem dX9_access_64 : decode cX9_access 64 = .ok (.getfield 7, 3) := by decide +kernel
theorem dX9_access_67 : decode cX9_access 67 = .ok (.bipush 18, 2) := by decide +kernel
theorem dX9_access_69 : decode cX9_access 69 = .ok (.dup2, 1) := by decide +kernel
theorem dX9_access_70 : decode cX9_access 70 = .ok (.iaload, 1) := by decide +kernel
theorem dX9_access_71 : decode cX9_access 71 = .ok (.iconst 1, 1) := by decide +kernel
theorem dX9_access_72 : decode cX9_access 72 = .ok (.isub, 1) := by decide +kernel
theorem dX9_access_73 : decode cX9_access 73 = .ok (.iastore, 1) := by decide +kernel
theorem dX9_access_74 : decode cX9_access 74 = .ok (.aload_n 0, 1) := by decide +kernel
theorem dX9_access_75 : decode cX9_access 75 = .ok (.getfield 7, 3) := by decide +kernel
theorem dX9_access_78 : decode cX9_access 78 = .ok (.sipush 267, 3) := by decide +kernel
theorem dX9_access_81 : decode cX9_access 81 = .ok (.aload_n 0, 1) := by decide +kernel
theorem dX9_access_82 : decode cX9_access 82 = .ok (.getfield 7, 3) := by decide +kernel
theorem dX9_access_85 : decode cX9_access 85 = .ok (.bipush 18, 2) := by decide +kernel
theorem dX9_access_87 : decode cX9_access 87 = .ok (.iaload, 1) := by decide +kernel
theorem dX9_access_88 : decode cX9_access 88 = .ok (.iadd, 1) := by decide +kernel
theorem dX9_access_89 : decode cX9_access 89 = .ok (.iload_n 1, 1) := by decide +kernel
theorem dX9_access_90 : decode cX9_access 90 = .ok (.iastore, 1) := by decide +kernel
theorem dX9_access_91 : decode cX9_access 91 = .ok (.aload_n 0, 1) := by decide +kernel
theorem dX9_access_92 : decode cX9_access 92 = .ok (.getfield 7, 3) := by decide +kernel
theorem dX9_access_95 : decode cX9_access 95 = .ok (.bipush 18, 2) := by decide +kernel
theorem dX9_access_97 : decode cX9_access 97 = .ok (.dup2, 1) := by decide +kernel
theorem dX9_access_98 : decode cX9_access 98 = .ok (.iaload, 1) := by decide +kernel
theorem dX9_access_99 : decode cX9_access 99 = .ok (.iconst 1, 1) := by decide +kernel
theorem dX9_access_100 : decode cX9_access 100 = .ok (.iadd, 1) := by decide +kernel
theorem dX9_access_101 : decode cX9_access 101 = .ok (.iastore, 1) := by decide +kernel
theorem dX9_access_102 : decode cX9_access 102 = .ok (.aload_n 0, 1) := by decide +kernel
theorem dX9_access_103 : decode cX9_access 103 = .ok (.aload_n 0, 1) := by decide +kernel
theorem dX9_access_104 : decode cX9_access 104 = .ok (.iload_n 1, 1) := by decide +kernel
theorem dX9_access_105 : decode cX9_access 105 = .ok (.invokevirtual 166, 3) := by decide +kernel
theorem dX9_access_108 : decode cX9_access 108 = .ok (.iconst 2, 1) := by decide +kernel
theorem dX9_access_109 : decode cX9_access 109 = .ok (.invokevirtual 39, 3) := by decide +kernel
theorem dX9_access_112 : decode cX9_access 112 = .ok (.ireturn, 1) := by decide +kernel
theorem dX9_splitAt_0 : decode cX9_splitAt 0 = .ok (.iload_n 1, 1) := by decide +kernel
theorem dX9_splitAt_1 : decode cX9_splitAt 1 = .ok (.invokestatic 160, 3) := by decide +kernel
theorem dX9_splitAt_4 : decode cX9_splitAt 4 = .ok (.ifCond .ne 10, 3) := by decide +kernel
theorem dX9_splitAt_7 : decode cX9_splitAt 7 = .ok (.aload_n 0, 1) := by decide +kernel
theorem dX9_splitAt_8 : decode cX9_splitAt 8 = .ok (.bipush (-2), 2) := by decide +kernel
theorem dX9_splitAt_10 : decode cX9_splitAt 10 = .ok (.invokevirtual 27, 3) := by decide +kernel
theorem dX9_splitAt_13 : decode cX9_splitAt 13 = .ok (.ireturn, 1) := by decide +kernel
theorem dX9_splitAt_14 : decode cX9_splitAt 14 = .ok (.aload_n 0, 1) := by decide +kernel
theorem dX9_splitAt_15 : decode cX9_splitAt 15 = .ok (.iload_n 1, 1) := by decide +kernel
theorem dX9_splitAt_16 : decode cX9_splitAt 16 = .ok (.invokevirtual 166, 3) := by decide +kernel
theorem dX9_splitAt_19 : decode cX9_splitAt 19 = .ok (.istore_n 2, 1) := by decide +kernel
theorem dX9_splitAt_20 : decode cX9_splitAt 20 = .ok (.aload_n 0, 1) := by decide +kernel
theorem dX9_splitAt_21 : decode cX9_splitAt 21 = .ok (.iload_n 2, 1) := by decide +kernel
theorem dX9_splitAt_22 : decode cX9_splitAt 22 = .ok (.iconst 0, 1) := by decide +kernel
theorem dX9_splitAt_23 : decode cX9_splitAt 23 = .ok (.invokevirtual 39, 3) := by decide +kernel
theorem dX9_splitAt_26 : decode cX9_splitAt 26 = .ok (.iload_n 1, 1) := by decide +kernel
theorem dX9_splitAt_27 : decode cX9_splitAt 27 = .ok (.if_icmp .eq 13, 3) := by decide +kernel
theorem dX9_splitAt_30 : decode cX9_splitAt 30 = .ok (.aload_n 0, 1) := by decide +kernel
theorem dX9_splitAt_31 : decode cX9_splitAt 31 = .ok (.iload_n 2, 1) := by decide +kernel
theorem dX9_splitAt_32 : decode cX9_splitAt 32 = .ok (.iconst 3, 1) := by decide +kernel
theorem dX9_splitAt_33 : decode cX9_splitAt 33 = .ok (.invokevirtual 39, 3) := by decide +kernel
theorem dX9_splitAt_36 : decode cX9_splitAt 36 = .ok (.iconst (-1), 1) := by decide +kernel
theorem dX9_splitAt_37 : decode cX9_splitAt 37 = .ok (.if_icmp .eq 10, 3) := by decide +kernel
theorem dX9_splitAt_40 : decode cX9_splitAt 40 = .ok (.aload_n 0, 1) := by decide +kernel
theorem dX9_splitAt_41 : decode cX9_splitAt 41 = .ok (.bipush (-3), 2) := by decide +kernel
theorem dX9_splitAt_43 : decode cX9_splitAt 43 = .ok (.invokevirtual 27, 3) := by decide +kernel
theorem dX9_splitAt_46 : decode cX9_splitAt 46 = .ok (.ireturn, 1) := by decide +kernel
theorem dX9_splitAt_47 : decode cX9_splitAt 47 = .ok (.aload_n 0, 1) := by decide +kernel
theorem dX9_splitAt_48 : decode cX9_splitAt 48 = .ok (.getfield 7, 3) := by decide +kernel
theorem dX9_splitAt_51 : decode cX9_splitAt 51 = .ok (.bipush 17, 2) := by decide +kernel
theorem dX9_splitAt_53 : decode cX9_splitAt 53 = .ok (.iaload, 1) := by decide +kernel
theorem dX9_splitAt_54 : decode cX9_splitAt 54 = .ok (.bipush 16, 2) := by decide +kernel
theorem dX9_splitAt_56 : decode cX9_splitAt 56 = .ok (.if_icmp .ne 10, 3) := by decide +kernel
theorem dX9_splitAt_59 : decode cX9_splitAt 59 = .ok (.aload_n 0, 1) := by decide +kernel
theorem dX9_splitAt_60 : decode cX9_splitAt 60 = .ok (.bipush (-4), 2) := by decide +kernel
theorem dX9_splitAt_62 : decode cX9_splitAt 62 = .ok (.invokevirtual 27, 3) := by decide +kernel
theorem dX9_splitAt_65 : decode cX9_splitAt 65 = .ok (.ireturn, 1) := by decide +kernel
theorem dX9_splitAt_66 : decode cX9_splitAt 66 = .ok (.aload_n 0, 1) := by decide +kernel
theorem dX9_splitAt_67 : decode cX9_splitAt 67 = .ok (.invokevirtual 138, 3) := by decide +kernel
theorem dX9_splitAt_70 : decode cX9_splitAt 70 = .ok (.aload_n 0, 1) := by decide +kernel
theorem dX9_splitAt_71 : decode cX9_splitAt 71 = .ok (.iload_n 2, 1) := by decide +kernel
theorem dX9_splitAt_72 : decode cX9_splitAt 72 = .ok (.iload_n 1, 1) := by decide +kernel
theorem dX9_splitAt_73 : decode cX9_splitAt 73 = .ok (.invokevirtual 101, 3) := by decide +kernel
theorem dX9_splitAt_76 : decode cX9_splitAt 76 = .ok (.iload_n 2, 1) := by decide +kernel
theorem dX9_splitAt_77 : decode cX9_splitAt 77 = .ok (.iconst 1, 1) := by decide +kernel
theorem dX9_splitAt_78 : decode cX9_splitAt 78 = .ok (.iadd, 1) := by decide +kernel
theorem dX9_splitAt_79 : decode cX9_splitAt 79 = .ok (.ireturn, 1) := by decide +kernel
theorem dX9_sizeOf_0 : decode cX9_sizeOf 0 = .ok (.iload_n 1, 1) := by decide +kernel
theorem dX9_sizeOf_1 : decode cX9_sizeOf 1 = .ok (.invokestatic 160, 3) := by decide +kernel
theorem dX9_sizeOf_4 : decode cX9_sizeOf 4 = .ok (.ifCond .ne 10, 3) := by decide +kernel
theorem dX9_sizeOf_7 : decode cX9_sizeOf 7 = .ok (.aload_n 0, 1) := by decide +kernel
theorem dX9_sizeOf_8 : decode cX9_sizeOf 8 = .ok (.bipush (-2), 2) := by decide +kernel
theorem dX9_sizeOf_10 : decode cX9_sizeOf 10 = .ok (.invokevirtual 27, 3) := by decide +kernel
theorem dX9_sizeOf_13 : decode cX9_sizeOf 13 = .ok (.ireturn, 1) := by decide +kernel
theorem dX9_sizeOf_14 : decode cX9_sizeOf 14 = .ok (.aload_n 0, 1) := by decide +kernel
theorem dX9_sizeOf_15 : decode cX9_sizeOf 15 = .ok (.iload_n 1, 1) := by decide +kernel
theorem dX9_sizeOf_16 : decode cX9_sizeOf 16 = .ok (.invokevirtual 163, 3) := by decide +kernel
theorem dX9_sizeOf_19 : decode cX9_sizeOf 19 = .ok (.istore_n 2, 1) := by decide +kernel
theorem dX9_sizeOf_20 : decode cX9_sizeOf 20 = .ok (.iload_n 2, 1) := by decide +kernel
theorem dX9_sizeOf_21 : decode cX9_sizeOf 21 = .ok (.iconst (-1), 1) := by decide +kernel
theorem dX9_sizeOf_22 : decode cX9_sizeOf 22 = .ok (.if_icmp .ne 7, 3) := by decide +kernel
theorem dX9_sizeOf_25 : decode cX9_sizeOf 25 = .ok (.iconst 0, 1) := by decide +kernel
theorem dX9_sizeOf_26 : decode cX9_sizeOf 26 = .ok (.goto 11, 3) := by decide +kernel
theorem dX9_sizeOf_29 : decode cX9_sizeOf 29 = .ok (.aload_n 0, 1) := by decide +kernel
theorem dX9_sizeOf_30 : decode cX9_sizeOf 30 = .ok (.getfield 7, 3) := by decide +kernel
theorem dX9_sizeOf_33 : decode cX9_sizeOf 33 = .ok (.iload_n 2, 1) := by decide +kernel
theorem dX9_sizeOf_34 : decode cX9_sizeOf 34 = .ok (.iconst 1, 1) := by decide +kernel
theorem dX9_sizeOf_35 : decode cX9_sizeOf 35 = .ok (.iadd, 1) := by decide +kernel
theorem dX9_sizeOf_36 : decode cX9_sizeOf 36 = .ok (.iaload, 1) := by decide +kernel
theorem dX9_sizeOf_37 : decode cX9_sizeOf 37 = .ok (.ireturn, 1) := by decide +kernel
theorem dX9_rangeCount_0 : decode cX9_rangeCount 0 = .ok (.aload_n 0, 1) := by decide +kernel
theorem dX9_rangeCount_1 : decode cX9_rangeCount 1 = .ok (.getfield 7, 3) := by decide +kernel
theorem dX9_rangeCount_4 : decode cX9_rangeCount 4 = .ok (.bipush 17, 2) := by decide +kernel
theorem dX9_rangeCount_6 : decode cX9_rangeCount 6 = .ok (.iaload, 1) := by decide +kernel
theorem dX9_rangeCount_7 : decode cX9_rangeCount 7 = .ok (.ireturn, 1) := by decide +kernel
theorem dX9_start_0 : decode cX9_start 0 = .ok (.aload_n 0, 1) := by decide +kernel
theorem dX9_start_1 : decode cX9_start 1 = .ok (.iload_n 1, 1) := by decide +kernel
theorem dX9_start_2 : decode cX9_start 2 = .ok (.invokevirtual 169, 3) := by decide +kernel
theorem dX9_start_5 : decode cX9_start 5 = .ok (.ifCond .eq 12, 3) := by decide +kernel
theorem dX9_start_8 : decode cX9_start 8 = .ok (.aload_n 0, 1) := by decide +kernel
theorem dX9_start_9 : decode cX9_start 9 = .ok (.iload_n 1, 1) := by decide +kernel
theorem dX9_start_10 : decode cX9_start 10 = .ok (.iconst 0, 1) := by decide +kernel
theorem dX9_start_11 : decode cX9_start 11 = .ok (.invokevirtual 39, 3) := by decide +kernel
theorem dX9_start_14 : decode cX9_start 14 = .ok (.goto 9, 3) := by decide +kernel
theorem dX9_start_17 : decode cX9_start 17 = .ok (.aload_n 0, 1) := by decide +kernel
theorem dX9_start_18 : decode cX9_start 18 = .ok (.bipush (-2), 2) := by decide +kernel
theorem dX9_start_20 : decode cX9_start 20 = .ok (.invokevirtual 27, 3) := by decide +kernel
theorem dX9_start_23 : decode cX9_start 23 = .ok (.ireturn, 1) := by decide +kernel
theorem dX9_size_0 : decode cX9_size 0 = .ok (.aload_n 0, 1) := by decide +kernel
theorem dX9_size_1 : decode cX9_size 1 = .ok (.iload_n 1, 1) := by decide +kernel
theorem dX9_size_2 : decode cX9_size 2 = .ok (.invokevirtual 169, 3) := by decide +kernel
theorem dX9_size_5 : decode cX9_size 5 = .ok (.ifCond .eq 12, 3) := by decide +kernel
theorem dX9_size_8 : decode cX9_size 8 = .ok (.aload_n 0, 1) := by decide +kernel
theorem dX9_size_9 : decode cX9_size 9 = .ok (.iload_n 1, 1) := by decide +kernel
theorem dX9_size_10 : decode cX9_size 10 = .ok (.iconst 0, 1) := by decide +kernel
theorem dX9_size_11 : decode cX9_size 11 = .ok (.invokevirtual 79, 3) := by decide +kernel
theorem dX9_size_14 : decode cX9_size 14 = .ok (.goto 9, 3) := by decide +kernel
theorem dX9_size_17 : decode cX9_size 17 = .ok (.aload_n 0, 1) := by decide +kernel
theorem dX9_size_18 : decode cX9_size 18 = .ok (.bipush (-2), 2) := by decide +kernel
theorem dX9_size_20 : decode cX9_size 20 = .ok (.invokevirtual 27, 3) := by decide +kernel
theorem dX9_size_23 : decode cX9_size 23 = .ok (.ireturn, 1) := by decide +kernel
theorem dX9_load_0 : decode cX9_load 0 = .ok (.aload_n 0, 1) := by decide +kernel
theorem dX9_load_1 : decode cX9_load 1 = .ok (.iload_n 1, 1) := by decide +kernel
theorem dX9_load_2 : decode cX9_load 2 = .ok (.invokevirtual 169, 3) := by decide +kernel
theorem dX9_load_5 : decode cX9_load 5 = .ok (.ifCond .eq 12, 3) := by decide +kernel
theorem dX9_load_8 : decode cX9_load 8 = .ok (.aload_n 0, 1) := by decide +kernel
theorem dX9_load_9 : decode cX9_load 9 = .ok (.iload_n 1, 1) := by decide +kernel
theorem dX9_load_10 : decode cX9_load 10 = .ok (.iconst 1, 1) := by decide +kernel
theorem dX9_load_11 : decode cX9_load 11 = .ok (.invokevirtual 79, 3) := by decide +kernel
theorem dX9_load_14 : decode cX9_load 14 = .ok (.goto 9, 3) := by decide +kernel
theorem dX9_load_17 : decode cX9_load 17 = .ok (.aload_n 0, 1) := by decide +kernel
theorem dX9_load_18 : decode cX9_load 18 = .ok (.bipush (-2), 2) := by decide +kernel
theorem dX9_load_20 : decode cX9_load 20 = .ok (.invokevirtual 27, 3) := by decide +kernel
theorem dX9_load_23 : decode cX9_load 23 = .ok (.ireturn, 1) := by decide +kernel
theorem dX9_rangeOf_0 : decode cX9_rangeOf 0 = .ok (.iload_n 1, 1) := by decide +kernel
theorem dX9_rangeOf_1 : decode cX9_rangeOf 1 = .ok (.invokestatic 160, 3) := by decide +kernel
theorem dX9_rangeOf_4 : decode cX9_rangeOf 4 = .ok (.ifCond .eq 11, 3) := by decide +kernel
theorem dX9_rangeOf_7 : decode cX9_rangeOf 7 = .ok (.aload_n 0, 1) := by decide +kernel
theorem dX9_rangeOf_8 : decode cX9_rangeOf 8 = .ok (.iload_n 1, 1) := by decide +kernel
theorem dX9_rangeOf_9 : decode cX9_rangeOf 9 = .ok (.invokevirtual 166, 3) := by decide +kernel
theorem dX9_rangeOf_12 : decode cX9_rangeOf 12 = .ok (.goto 9, 3) := by decide +kernel
theorem dX9_rangeOf_15 : decode cX9_rangeOf 15 = .ok (.aload_n 0, 1) := by decide +kernel
theorem dX9_rangeOf_16 : decode cX9_rangeOf 16 = .ok (.bipush (-2), 2) := by decide +kernel
theorem dX9_rangeOf_18 : decode cX9_rangeOf 18 = .ok (.invokevirtual 27, 3) := by decide +kernel
theorem dX9_rangeOf_21 : decode cX9_rangeOf 21 = .ok (.ireturn, 1) := by decide +kernel
theorem dX9_voters_0 : decode cX9_voters 0 = .ok (.aload_n 0, 1) := by decide +kernel
theorem dX9_voters_1 : decode cX9_voters 1 = .ok (.iload_n 1, 1) := by decide +kernel
theorem dX9_voters_2 : decode cX9_voters 2 = .ok (.invokevirtual 169, 3) := by decide +kernel
theorem dX9_voters_5 : decode cX9_voters 5 = .ok (.ifCond .eq 12, 3) := by decide +kernel
theorem dX9_voters_8 : decode cX9_voters 8 = .ok (.aload_n 0, 1) := by decide +kernel
theorem dX9_voters_9 : decode cX9_voters 9 = .ok (.iload_n 1, 1) := by decide +kernel
theorem dX9_voters_10 : decode cX9_voters 10 = .ok (.iconst 1, 1) := by decide +kernel
theorem dX9_voters_11 : decode cX9_voters 11 = .ok (.invokevirtual 39, 3) := by decide +kernel
theorem dX9_voters_14 : decode cX9_voters 14 = .ok (.goto 9, 3) := by decide +kernel
theorem dX9_voters_17 : decode cX9_voters 17 = .ok (.aload_n 0, 1) := by decide +kernel
theorem dX9_voters_18 : decode cX9_voters 18 = .ok (.bipush (-2), 2) := by decide +kernel
theorem dX9_voters_20 : decode cX9_voters 20 = .ok (.invokevirtual 27, 3) := by decide +kernel
theorem dX9_voters_23 : decode cX9_voters 23 = .ok (.ireturn, 1) := by decide +kernel
theorem dX9_leader_0 : decode cX9_leader 0 = .ok (.aload_n 0, 1) := by decide +kernel
theorem dX9_leader_1 : decode cX9_leader 1 = .ok (.iload_n 1, 1) := by decide +kernel
theorem dX9_leader_2 : decode cX9_leader 2 = .ok (.invokevirtual 169, 3) := by decide +kernel
theorem dX9_leader_5 : decode cX9_leader 5 = .ok (.ifCond .eq 12, 3) := by decide +kernel
theorem dX9_leader_8 : decode cX9_leader 8 = .ok (.aload_n 0, 1) := by decide +kernel
theorem dX9_leader_9 : decode cX9_leader 9 = .ok (.iload_n 1, 1) := by decide +kernel
theorem dX9_leader_10 : decode cX9_leader 10 = .ok (.iconst 2, 1) := by decide +kernel
theorem dX9_leader_11 : decode cX9_leader 11 = .ok (.invokevirtual 39, 3) := by decide +kernel
theorem dX9_leader_14 : decode cX9_leader 14 = .ok (.goto 9, 3) := by decide +kernel
theorem dX9_leader_17 : decode cX9_leader 17 = .ok (.aload_n 0, 1) := by decide +kernel
theorem dX9_leader_18 : decode cX9_leader 18 = .ok (.bipush (-2), 2) := by decide +kernel
theorem dX9_leader_20 : decode cX9_leader 20 = .ok (.invokevirtual 27, 3) := by decide +kernel
theorem dX9_leader_23 : decode cX9_leader 23 = .ok (.ireturn, 1) := by decide +kernel
theorem dX9_learnerOf_0 : decode cX9_learnerOf 0 = .ok (.aload_n 0, 1) := by decide +kernel
theorem dX9_learnerOf_1 : decode cX9_learnerOf 1 = .ok (.iload_n 1, 1) := by decide +kernel
theorem dX9_learnerOf_2 : decode cX9_learnerOf 2 = .ok (.iconst 3, 1) := by decide +kernel
theorem dX9_learnerOf_3 : decode cX9_learnerOf 3 = .ok (.invokevirtual 39, 3) := by decide +kernel
theorem dX9_learnerOf_6 : decode cX9_learnerOf 6 = .ok (.iconst (-1), 1) := by decide +kernel
theorem dX9_learnerOf_7 : decode cX9_learnerOf 7 = .ok (.if_icmp .ne 7, 3) := by decide +kernel
theorem dX9_learnerOf_10 : decode cX9_learnerOf 10 = .ok (.iconst (-1), 1) := by decide +kernel
theorem dX9_learnerOf_11 : decode cX9_learnerOf 11 = .ok (.goto 19, 3) := by decide +kernel
theorem dX9_learnerOf_14 : decode cX9_learnerOf 14 = .ok (.bipush 100, 2) := by decide +kernel
theorem dX9_learnerOf_16 : decode cX9_learnerOf 16 = .ok (.aload_n 0, 1) := by decide +kernel
theorem dX9_learnerOf_17 : decode cX9_learnerOf 17 = .ok (.iload_n 1, 1) := by decide +kernel
theorem dX9_learnerOf_18 : decode cX9_learnerOf 18 = .ok (.iconst 4, 1) := by decide +kernel
theorem dX9_learnerOf_19 : decode cX9_learnerOf 19 = .ok (.invokevirtual 39, 3) := by decide +kernel
theorem dX9_learnerOf_22 : decode cX9_learnerOf 22 = .ok (.imul, 1) := by decide +kernel
theorem dX9_learnerOf_23 : decode cX9_learnerOf 23 = .ok (.aload_n 0, 1) := by decide +kernel
theorem dX9_learnerOf_24 : decode cX9_learnerOf 24 = .ok (.iload_n 1, 1) := by decide +kernel
theorem dX9_learnerOf_25 : decode cX9_learnerOf 25 = .ok (.iconst 3, 1) := by decide +kernel
theorem dX9_learnerOf_26 : decode cX9_learnerOf 26 = .ok (.invokevirtual 39, 3) := by decide +kernel
theorem dX9_learnerOf_29 : decode cX9_learnerOf 29 = .ok (.iadd, 1) := by decide +kernel
theorem dX9_learnerOf_30 : decode cX9_learnerOf 30 = .ok (.ireturn, 1) := by decide +kernel
theorem dX9_learner_0 : decode cX9_learner 0 = .ok (.aload_n 0, 1) := by decide +kernel
theorem dX9_learner_1 : decode cX9_learner 1 = .ok (.iload_n 1, 1) := by decide +kernel
theorem dX9_learner_2 : decode cX9_learner 2 = .ok (.invokevirtual 169, 3) := by decide +kernel
theorem dX9_learner_5 : decode cX9_learner 5 = .ok (.ifCond .eq 11, 3) := by decide +kernel
theorem dX9_learner_8 : decode cX9_learner 8 = .ok (.aload_n 0, 1) := by decide +kernel
theorem dX9_learner_9 : decode cX9_learner 9 = .ok (.iload_n 1, 1) := by decide +kernel
theorem dX9_learner_10 : decode cX9_learner 10 = .ok (.invokevirtual 172, 3) := by decide +kernel
theorem dX9_learner_13 : decode cX9_learner 13 = .ok (.goto 9, 3) := by decide +kernel
theorem dX9_learner_16 : decode cX9_learner 16 = .ok (.aload_n 0, 1) := by decide +kernel
theorem dX9_learner_17 : decode cX9_learner 17 = .ok (.bipush (-2), 2) := by decide +kernel
theorem dX9_learner_19 : decode cX9_learner 19 = .ok (.invokevirtual 27, 3) := by decide +kernel
theorem dX9_learner_22 : decode cX9_learner 22 = .ok (.ireturn, 1) := by decide +kernel
theorem dX9_isAvailable_0 : decode cX9_isAvailable 0 = .ok (.aload_n 0, 1) := by decide +kernel
theorem dX9_isAvailable_1 : decode cX9_isAvailable 1 = .ok (.iload_n 1, 1) := by decide +kernel
theorem dX9_isAvailable_2 : decode cX9_isAvailable 2 = .ok (.invokevirtual 169, 3) := by decide +kernel
theorem dX9_isAvailable_5 : decode cX9_isAvailable 5 = .ok (.ifCond .eq 19, 3) := by decide +kernel
theorem dX9_isAvailable_8 : decode cX9_isAvailable 8 = .ok (.aload_n 0, 1) := by decide +kernel
theorem dX9_isAvailable_9 : decode cX9_isAvailable 9 = .ok (.iload_n 1, 1) := by decide +kernel
theorem dX9_isAvailable_10 : decode cX9_isAvailable 10 = .ok (.invokevirtual 54, 3) := by decide +kernel
theorem dX9_isAvailable_13 : decode cX9_isAvailable 13 = .ok (.ifCond .eq 7, 3) := by decide +kernel
theorem dX9_isAvailable_16 : decode cX9_isAvailable 16 = .ok (.iconst 1, 1) := by decide +kernel
theorem dX9_isAvailable_17 : decode cX9_isAvailable 17 = .ok (.goto 13, 3) := by decide +kernel
theorem dX9_isAvailable_20 : decode cX9_isAvailable 20 = .ok (.iconst 0, 1) := by decide +kernel
theorem dX9_isAvailable_21 : decode cX9_isAvailable 21 = .ok (.goto 9, 3) := by decide +kernel
theorem dX9_isAvailable_24 : decode cX9_isAvailable 24 = .ok (.aload_n 0, 1) := by decide +kernel
theorem dX9_isAvailable_25 : decode cX9_isAvailable 25 = .ok (.bipush (-2), 2) := by decide +kernel
theorem dX9_isAvailable_27 : decode cX9_isAvailable 27 = .ok (.invokevirtual 27, 3) := by decide +kernel
theorem dX9_isAvailable_30 : decode cX9_isAvailable 30 = .ok (.ireturn, 1) := by decide +kernel
theorem dX9_splitKey_0 : decode cX9_splitKey 0 = .ok (.aload_n 0, 1) := by decide +kernel
theorem dX9_splitKey_1 : decode cX9_splitKey 1 = .ok (.iload_n 1, 1) := by decide +kernel
theorem dX9_splitKey_2 : decode cX9_splitKey 2 = .ok (.invokevirtual 169, 3) := by decide +kernel
theorem dX9_splitKey_5 : decode cX9_splitKey 5 = .ok (.ifCond .eq 21, 3) := by decide +kernel
theorem dX9_splitKey_8 : decode cX9_splitKey 8 = .ok (.iload_n 2, 1) := by decide +kernel
theorem dX9_splitKey_9 : decode cX9_splitKey 9 = .ok (.iconst 0, 1) := by decide +kernel
theorem dX9_splitKey_10 : decode cX9_splitKey 10 = .ok (.iconst 1, 1) := by decide +kernel
theorem dX9_splitKey_11 : decode cX9_splitKey 11 = .ok (.invokestatic 31, 3) := by decide +kernel
theorem dX9_splitKey_14 : decode cX9_splitKey 14 = .ok (.ifCond .eq 12, 3) := by decide +kernel
theorem dX9_splitKey_17 : decode cX9_splitKey 17 = .ok (.aload_n 0, 1) := by decide +kernel
theorem dX9_splitKey_18 : decode cX9_splitKey 18 = .ok (.iload_n 1, 1) := by decide +kernel
theorem dX9_splitKey_19 : decode cX9_splitKey 19 = .ok (.iload_n 2, 1) := by decide +kernel
theorem dX9_splitKey_20 : decode cX9_splitKey 20 = .ok (.invokevirtual 98, 3) := by decide +kernel
theorem dX9_splitKey_23 : decode cX9_splitKey 23 = .ok (.goto 9, 3) := by decide +kernel
theorem dX9_splitKey_26 : decode cX9_splitKey 26 = .ok (.aload_n 0, 1) := by decide +kernel
theorem dX9_splitKey_27 : decode cX9_splitKey 27 = .ok (.bipush (-2), 2) := by decide +kernel
theorem dX9_splitKey_29 : decode cX9_splitKey 29 = .ok (.invokevirtual 27, 3) := by decide +kernel
theorem dX9_splitKey_32 : decode cX9_splitKey 32 = .ok (.ireturn, 1) := by decide +kernel
theorem dX9_replicas_0 : decode cX9_replicas 0 = .ok (.aload_n 0, 1) := by decide +kernel
theorem dX9_replicas_1 : decode cX9_replicas 1 = .ok (.iload_n 1, 1) := by decide +kernel
theorem dX9_replicas_2 : decode cX9_replicas 2 = .ok (.invokevirtual 148, 3) := by decide +kernel
theorem dX9_replicas_5 : decode cX9_replicas 5 = .ok (.ifCond .eq 11, 3) := by decide +kernel
theorem dX9_replicas_8 : decode cX9_replicas 8 = .ok (.aload_n 0, 1) := by decide +kernel
theorem dX9_replicas_9 : decode cX9_replicas 9 = .ok (.iload_n 1, 1) := by decide +kernel
theorem dX9_replicas_10 : decode cX9_replicas 10 = .ok (.invokevirtual 63, 3) := by decide +kernel
theorem dX9_replicas_13 : decode cX9_replicas 13 = .ok (.goto 9, 3) := by decide +kernel
theorem dX9_replicas_16 : decode cX9_replicas 16 = .ok (.aload_n 0, 1) := by decide +kernel
theorem dX9_replicas_17 : decode cX9_replicas 17 = .ok (.bipush (-2), 2) := by decide +kernel
theorem dX9_replicas_19 : decode cX9_replicas 19 = .ok (.invokevirtual 27, 3) := by decide +kernel
theorem dX9_replicas_22 : decode cX9_replicas 22 = .ok (.ireturn, 1) := by decide +kernel
theorem dX9_leaders_0 : decode cX9_leaders 0 = .ok (.aload_n 0, 1) := by decide +kernel
theorem dX9_leaders_1 : decode cX9_leaders 1 = .ok (.iload_n 1, 1) := by decide +kernel
theorem dX9_leaders_2 : decode cX9_leaders 2 = .ok (.invokevirtual 148, 3) := by decide +kernel
theorem dX9_leaders_5 : decode cX9_leaders 5 = .ok (.ifCond .eq 12, 3) := by decide +kernel
theorem dX9_leaders_8 : decode cX9_leaders 8 = .ok (.aload_n 0, 1) := by decide +kernel
theorem dX9_leaders_9 : decode cX9_leaders 9 = .ok (.iload_n 1, 1) := by decide +kernel
theorem dX9_leaders_10 : decode cX9_leaders 10 = .ok (.iconst (-1), 1) := by decide +kernel
theorem dX9_leaders_11 : decode cX9_leaders 11 = .ok (.invokevirtual 57, 3) := by decide +kernel
theorem dX9_leaders_14 : decode cX9_leaders 14 = .ok (.goto 9, 3) := by decide +kernel
theorem dX9_leaders_17 : decode cX9_leaders 17 = .ok (.aload_n 0, 1) := by decide +kernel
theorem dX9_leaders_18 : decode cX9_leaders 18 = .ok (.bipush (-2), 2) := by decide +kernel
theorem dX9_leaders_20 : decode cX9_leaders 20 = .ok (.invokevirtual 27, 3) := by decide +kernel
theorem dX9_leaders_23 : decode cX9_leaders 23 = .ok (.ireturn, 1) := by decide +kernel
theorem dX9_errorCount_0 : decode cX9_errorCount 0 = .ok (.iload_n 1, 1) := by decide +kernel
theorem dX9_errorCount_1 : decode cX9_errorCount 1 = .ok (.iconst 0, 1) := by decide +kernel
theorem dX9_errorCount_2 : decode cX9_errorCount 2 = .ok (.iconst 2, 1) := by decide +kernel
theorem dX9_errorCount_3 : decode cX9_errorCount 3 = .ok (.invokestatic 31, 3) := by decide +kernel
theorem dX9_errorCount_6 : decode cX9_errorCount 6 = .ok (.ifCond .eq 12, 3) := by decide +kernel
theorem dX9_errorCount_9 : decode cX9_errorCount 9 = .ok (.aload_n 0, 1) := by decide +kernel
theorem dX9_errorCount_10 : decode cX9_errorCount 10 = .ok (.getfield 16, 3) := by decide +kernel
theorem dX9_errorCount_13 : decode cX9_errorCount 13 = .ok (.iload_n 1, 1) := by decide +kernel
theorem dX9_errorCount_14 : decode cX9_errorCount 14 = .ok (.iaload, 1) := by decide +kernel
theorem dX9_errorCount_15 : decode cX9_errorCount 15 = .ok (.goto 9, 3) := by decide +kernel
theorem dX9_errorCount_18 : decode cX9_errorCount 18 = .ok (.aload_n 0, 1) := by decide +kernel
theorem dX9_errorCount_19 : decode cX9_errorCount 19 = .ok (.bipush (-2), 2) := by decide +kernel
theorem dX9_errorCount_21 : decode cX9_errorCount 21 = .ok (.invokevirtual 27, 3) := by decide +kernel
theorem dX9_errorCount_24 : decode cX9_errorCount 24 = .ok (.ireturn, 1) := by decide +kernel
theorem dX9_add_0 : decode cX9_add 0 = .ok (.aload_n 0, 1) := by decide +kernel
theorem dX9_add_1 : decode cX9_add 1 = .ok (.ldc2_w 175, 3) := by decide +kernel
theorem dX9_add_4 : decode cX9_add 4 = .ok (.aload_n 0, 1) := by decide +kernel
theorem dX9_add_5 : decode cX9_add 5 = .ok (.getfield 177, 3) := by decide +kernel
theorem dX9_add_8 : decode cX9_add 8 = .ok (.lmul, 1) := by decide +kernel
theorem dX9_add_9 : decode cX9_add 9 = .ok (.iload_n 1, 1) := by decide +kernel
theorem dX9_add_10 : decode cX9_add 10 = .ok (.i2l, 1) := by decide +kernel
theorem dX9_add_11 : decode cX9_add 11 = .ok (.ladd, 1) := by decide +kernel
theorem dX9_add_12 : decode cX9_add 12 = .ok (.putfield 177, 3) := by decide +kernel
theorem dX9_add_15 : decode cX9_add 15 = .ok (.return_, 1) := by decide +kernel
theorem dX9_digest_0 : decode cX9_digest 0 = .ok (.aload_n 0, 1) := by decide +kernel
theorem dX9_digest_1 : decode cX9_digest 1 = .ok (.ldc2_w 181, 3) := by decide +kernel
theorem dX9_digest_4 : decode cX9_digest 4 = .ok (.putfield 177, 3) := by decide +kernel
theorem dX9_digest_7 : decode cX9_digest 7 = .ok (.iconst 0, 1) := by decide +kernel
theorem dX9_digest_8 : decode cX9_digest 8 = .ok (.istore_n 1, 1) := by decide +kernel
theorem dX9_digest_9 : decode cX9_digest 9 = .ok (.iload_n 1, 1) := by decide +kernel
theorem dX9_digest_10 : decode cX9_digest 10 = .ok (.iconst 3, 1) := by decide +kernel
theorem dX9_digest_11 : decode cX9_digest 11 = .ok (.if_icmp .ge 19, 3) := by decide +kernel
theorem dX9_digest_14 : decode cX9_digest 14 = .ok (.aload_n 0, 1) := by decide +kernel
theorem dX9_digest_15 : decode cX9_digest 15 = .ok (.aload_n 0, 1) := by decide +kernel
theorem dX9_digest_16 : decode cX9_digest 16 = .ok (.getfield 16, 3) := by decide +kernel
theorem dX9_digest_19 : decode cX9_digest 19 = .ok (.iload_n 1, 1) := by decide +kernel
theorem dX9_digest_20 : decode cX9_digest 20 = .ok (.iaload, 1) := by decide +kernel
theorem dX9_digest_21 : decode cX9_digest 21 = .ok (.invokevirtual 183, 3) := by decide +kernel
theorem dX9_digest_24 : decode cX9_digest 24 = .ok (.iinc 1 1, 3) := by decide +kernel
theorem dX9_digest_27 : decode cX9_digest 27 = .ok (.goto (-18), 3) := by decide +kernel
theorem dX9_digest_30 : decode cX9_digest 30 = .ok (.aload_n 0, 1) := by decide +kernel
theorem dX9_digest_31 : decode cX9_digest 31 = .ok (.aload_n 0, 1) := by decide +kernel
theorem dX9_digest_32 : decode cX9_digest 32 = .ok (.getfield 23, 3) := by decide +kernel
theorem dX9_digest_35 : decode cX9_digest 35 = .ok (.invokevirtual 183, 3) := by decide +kernel
theorem dX9_digest_38 : decode cX9_digest 38 = .ok (.aload_n 0, 1) := by decide +kernel
theorem dX9_digest_39 : decode cX9_digest 39 = .ok (.aload_n 0, 1) := by decide +kernel
theorem dX9_digest_40 : decode cX9_digest 40 = .ok (.getfield 7, 3) := by decide +kernel
theorem dX9_digest_43 : decode cX9_digest 43 = .ok (.bipush 6, 2) := by decide +kernel
theorem dX9_digest_45 : decode cX9_digest 45 = .ok (.iaload, 1) := by decide +kernel
theorem dX9_digest_46 : decode cX9_digest 46 = .ok (.invokevirtual 183, 3) := by decide +kernel
theorem dX9_digest_49 : decode cX9_digest 49 = .ok (.iconst 0, 1) := by decide +kernel
theorem dX9_digest_50 : decode cX9_digest 50 = .ok (.istore_n 1, 1) := by decide +kernel
theorem dX9_digest_51 : decode cX9_digest 51 = .ok (.iload_n 1, 1) := by decide +kernel
theorem dX9_digest_52 : decode cX9_digest 52 = .ok (.iconst 5, 1) := by decide +kernel
theorem dX9_digest_53 : decode cX9_digest 53 = .ok (.if_icmp .gt 19, 3) := by decide +kernel
theorem dX9_digest_56 : decode cX9_digest 56 = .ok (.aload_n 0, 1) := by decide +kernel
theorem dX9_digest_57 : decode cX9_digest 57 = .ok (.aload_n 0, 1) := by decide +kernel
theorem dX9_digest_58 : decode cX9_digest 58 = .ok (.getfield 7, 3) := by decide +kernel
theorem dX9_digest_61 : decode cX9_digest 61 = .ok (.iload_n 1, 1) := by decide +kernel
theorem dX9_digest_62 : decode cX9_digest 62 = .ok (.iaload, 1) := by decide +kernel
theorem dX9_digest_63 : decode cX9_digest 63 = .ok (.invokevirtual 183, 3) := by decide +kernel
theorem dX9_digest_66 : decode cX9_digest 66 = .ok (.iinc 1 1, 3) := by decide +kernel
theorem dX9_digest_69 : decode cX9_digest 69 = .ok (.goto (-18), 3) := by decide +kernel
theorem dX9_digest_72 : decode cX9_digest 72 = .ok (.aload_n 0, 1) := by decide +kernel
theorem dX9_digest_73 : decode cX9_digest 73 = .ok (.aload_n 0, 1) := by decide +kernel
theorem dX9_digest_74 : decode cX9_digest 74 = .ok (.getfield 7, 3) := by decide +kernel
theorem dX9_digest_77 : decode cX9_digest 77 = .ok (.bipush 15, 2) := by decide +kernel
theorem dX9_digest_79 : decode cX9_digest 79 = .ok (.iaload, 1) := by decide +kernel
theorem dX9_digest_80 : decode cX9_digest 80 = .ok (.invokevirtual 183, 3) := by decide +kernel
theorem dX9_digest_83 : decode cX9_digest 83 = .ok (.iconst 0, 1) := by decide +kernel
theorem dX9_digest_84 : decode cX9_digest 84 = .ok (.istore_n 1, 1) := by decide +kernel
theorem dX9_digest_85 : decode cX9_digest 85 = .ok (.iload_n 1, 1) := by decide +kernel
theorem dX9_digest_86 : decode cX9_digest 86 = .ok (.aload_n 0, 1) := by decide +kernel
theorem dX9_digest_87 : decode cX9_digest 87 = .ok (.getfield 7, 3) := by decide +kernel
theorem dX9_digest_90 : decode cX9_digest 90 = .ok (.bipush 15, 2) := by decide +kernel
theorem dX9_digest_92 : decode cX9_digest 92 = .ok (.iaload, 1) := by decide +kernel
theorem dX9_digest_93 : decode cX9_digest 93 = .ok (.if_icmp .ge 58, 3) := by decide +kernel
theorem dX9_digest_96 : decode cX9_digest 96 = .ok (.iconst 0, 1) := by decide +kernel
theorem dX9_digest_97 : decode cX9_digest 97 = .ok (.istore_n 2, 1) := by decide +kernel
theorem dX9_digest_98 : decode cX9_digest 98 = .ok (.iload_n 2, 1) := by decide +kernel
theorem dX9_digest_99 : decode cX9_digest 99 = .ok (.iconst 3, 1) := by decide +kernel
theorem dX9_digest_100 : decode cX9_digest 100 = .ok (.if_icmp .ge 26, 3) := by decide +kernel
theorem dX9_digest_103 : decode cX9_digest 103 = .ok (.aload_n 0, 1) := by decide +kernel
theorem dX9_digest_104 : decode cX9_digest 104 = .ok (.aload_n 0, 1) := by decide +kernel
theorem dX9_digest_105 : decode cX9_digest 105 = .ok (.getfield 7, 3) := by decide +kernel
theorem dX9_digest_108 : decode cX9_digest 108 = .ok (.bipush 19, 2) := by decide +kernel
theorem dX9_digest_110 : decode cX9_digest 110 = .ok (.iconst 3, 1) := by decide +kernel
theorem dX9_digest_111 : decode cX9_digest 111 = .ok (.iload_n 1, 1) := by decide +kernel
theorem dX9_digest_112 : decode cX9_digest 112 = .ok (.imul, 1) := by decide +kernel
theorem dX9_digest_113 : decode cX9_digest 113 = .ok (.iadd, 1) := by decide +kernel
theorem dX9_digest_114 : decode cX9_digest 114 = .ok (.iload_n 2, 1) := by decide +kernel
theorem dX9_digest_115 : decode cX9_digest 115 = .ok (.iadd, 1) := by decide +kernel
theorem dX9_digest_116 : decode cX9_digest 116 = .ok (.iaload, 1) := by decide +kernel
theorem dX9_digest_117 : decode cX9_digest 117 = .ok (.invokevirtual 183, 3) := by decide +kernel
theorem dX9_digest_120 : decode cX9_digest 120 = .ok (.iinc 2 1, 3) := by decide +kernel
theorem dX9_digest_123 : decode cX9_digest 123 = .ok (.goto (-25), 3) := by decide +kernel
theorem dX9_digest_126 : decode cX9_digest 126 = .ok (.aload_n 0, 1) := by decide +kernel
theorem dX9_digest_127 : decode cX9_digest 127 = .ok (.aload_n 0, 1) := by decide +kernel
theorem dX9_digest_128 : decode cX9_digest 128 = .ok (.iload_n 1, 1) := by decide +kernel
theorem dX9_digest_129 : decode cX9_digest 129 = .ok (.invokevirtual 63, 3) := by decide +kernel
theorem dX9_digest_132 : decode cX9_digest 132 = .ok (.invokevirtual 183, 3) := by decide +kernel
theorem dX9_digest_135 : decode cX9_digest 135 = .ok (.aload_n 0, 1) := by decide +kernel
theorem dX9_digest_136 : decode cX9_digest 136 = .ok (.aload_n 0, 1) := by decide +kernel
theorem dX9_digest_137 : decode cX9_digest 137 = .ok (.iload_n 1, 1) := by decide +kernel
theorem dX9_digest_138 : decode cX9_digest 138 = .ok (.iconst (-1), 1) := by decide +kernel
theorem dX9_digest_139 : decode cX9_digest 139 = .ok (.invokevirtual 57, 3) := by decide +kernel
theorem dX9_digest_142 : decode cX9_digest 142 = .ok (.invokevirtual 183, 3) := by decide +kernel
theorem dX9_digest_145 : decode cX9_digest 145 = .ok (.iinc 1 1, 3) := by decide +kernel
theorem dX9_digest_148 : decode cX9_digest 148 = .ok (.goto (-63), 3) := by decide +kernel
theorem dX9_digest_151 : decode cX9_digest 151 = .ok (.aload_n 0, 1) := by decide +kernel
theorem dX9_digest_152 : decode cX9_digest 152 = .ok (.aload_n 0, 1) := by decide +kernel
theorem dX9_digest_153 : decode cX9_digest 153 = .ok (.getfield 7, 3) := by decide +kernel
theorem dX9_digest_156 : decode cX9_digest 156 = .ok (.bipush 17, 2) := by decide +kernel
theorem dX9_digest_158 : decode cX9_digest 158 = .ok (.iaload, 1) := by decide +kernel
theorem dX9_digest_159 : decode cX9_digest 159 = .ok (.invokevirtual 183, 3) := by decide +kernel
theorem dX9_digest_162 : decode cX9_digest 162 = .ok (.iconst 0, 1) := by decide +kernel
theorem dX9_digest_163 : decode cX9_digest 163 = .ok (.istore_n 1, 1) := by decide +kernel
theorem dX9_digest_164 : decode cX9_digest 164 = .ok (.iload_n 1, 1) := by decide +kernel
theorem dX9_digest_165 : decode cX9_digest 165 = .ok (.aload_n 0, 1) := by decide +kernel
theorem dX9_digest_166 : decode cX9_digest 166 = .ok (.getfield 7, 3) := by decide +kernel
theorem dX9_digest_169 : decode cX9_digest 169 = .ok (.bipush 17, 2) := by decide +kernel
theorem dX9_digest_171 : decode cX9_digest 171 = .ok (.iaload, 1) := by decide +kernel
theorem dX9_digest_172 : decode cX9_digest 172 = .ok (.if_icmp .ge 98, 3) := by decide +kernel
theorem dX9_digest_175 : decode cX9_digest 175 = .ok (.aload_n 0, 1) := by decide +kernel
theorem dX9_digest_176 : decode cX9_digest 176 = .ok (.aload_n 0, 1) := by decide +kernel
theorem dX9_digest_177 : decode cX9_digest 177 = .ok (.iload_n 1, 1) := by decide +kernel
theorem dX9_digest_178 : decode cX9_digest 178 = .ok (.iconst 0, 1) := by decide +kernel
theorem dX9_digest_179 : decode cX9_digest 179 = .ok (.invokevirtual 39, 3) := by decide +kernel
theorem dX9_digest_182 : decode cX9_digest 182 = .ok (.invokevirtual 183, 3) := by decide +kernel
theorem dX9_digest_185 : decode cX9_digest 185 = .ok (.aload_n 0, 1) := by decide +kernel
theorem dX9_digest_186 : decode cX9_digest 186 = .ok (.aload_n 0, 1) := by decide +kernel
theorem dX9_digest_187 : decode cX9_digest 187 = .ok (.iload_n 1, 1) := by decide +kernel
theorem dX9_digest_188 : decode cX9_digest 188 = .ok (.iconst 0, 1) := by decide +kernel
theorem dX9_digest_189 : decode cX9_digest 189 = .ok (.invokevirtual 79, 3) := by decide +kernel
theorem dX9_digest_192 : decode cX9_digest 192 = .ok (.invokevirtual 183, 3) := by decide +kernel
theorem dX9_digest_195 : decode cX9_digest 195 = .ok (.aload_n 0, 1) := by decide +kernel
theorem dX9_digest_196 : decode cX9_digest 196 = .ok (.aload_n 0, 1) := by decide +kernel
theorem dX9_digest_197 : decode cX9_digest 197 = .ok (.iload_n 1, 1) := by decide +kernel
theorem dX9_digest_198 : decode cX9_digest 198 = .ok (.iconst 1, 1) := by decide +kernel
theorem dX9_digest_199 : decode cX9_digest 199 = .ok (.invokevirtual 79, 3) := by decide +kernel
theorem dX9_digest_202 : decode cX9_digest 202 = .ok (.invokevirtual 183, 3) := by decide +kernel
theorem dX9_digest_205 : decode cX9_digest 205 = .ok (.aload_n 0, 1) := by decide +kernel
theorem dX9_digest_206 : decode cX9_digest 206 = .ok (.aload_n 0, 1) := by decide +kernel
theorem dX9_digest_207 : decode cX9_digest 207 = .ok (.iload_n 1, 1) := by decide +kernel
theorem dX9_digest_208 : decode cX9_digest 208 = .ok (.iconst 1, 1) := by decide +kernel
theorem dX9_digest_209 : decode cX9_digest 209 = .ok (.invokevirtual 39, 3) := by decide +kernel
theorem dX9_digest_212 : decode cX9_digest 212 = .ok (.invokevirtual 183, 3) := by decide +kernel
theorem dX9_digest_215 : decode cX9_digest 215 = .ok (.aload_n 0, 1) := by decide +kernel
theorem dX9_digest_216 : decode cX9_digest 216 = .ok (.aload_n 0, 1) := by decide +kernel
theorem dX9_digest_217 : decode cX9_digest 217 = .ok (.iload_n 1, 1) := by decide +kernel
theorem dX9_digest_218 : decode cX9_digest 218 = .ok (.iconst 2, 1) := by decide +kernel
theorem dX9_digest_219 : decode cX9_digest 219 = .ok (.invokevirtual 39, 3) := by decide +kernel
theorem dX9_digest_222 : decode cX9_digest 222 = .ok (.invokevirtual 183, 3) := by decide +kernel
theorem dX9_digest_225 : decode cX9_digest 225 = .ok (.aload_n 0, 1) := by decide +kernel
theorem dX9_digest_226 : decode cX9_digest 226 = .ok (.aload_n 0, 1) := by decide +kernel
theorem dX9_digest_227 : decode cX9_digest 227 = .ok (.iload_n 1, 1) := by decide +kernel
theorem dX9_digest_228 : decode cX9_digest 228 = .ok (.invokevirtual 172, 3) := by decide +kernel
theorem dX9_digest_231 : decode cX9_digest 231 = .ok (.invokevirtual 183, 3) := by decide +kernel
theorem dX9_digest_234 : decode cX9_digest 234 = .ok (.aload_n 0, 1) := by decide +kernel
theorem dX9_digest_235 : decode cX9_digest 235 = .ok (.aload_n 0, 1) := by decide +kernel
theorem dX9_digest_236 : decode cX9_digest 236 = .ok (.iload_n 1, 1) := by decide +kernel
theorem dX9_digest_237 : decode cX9_digest 237 = .ok (.iconst 5, 1) := by decide +kernel
theorem dX9_digest_238 : decode cX9_digest 238 = .ok (.invokevirtual 39, 3) := by decide +kernel
theorem dX9_digest_241 : decode cX9_digest 241 = .ok (.invokevirtual 183, 3) := by decide +kernel
theorem dX9_digest_244 : decode cX9_digest 244 = .ok (.aload_n 0, 1) := by decide +kernel
theorem dX9_digest_245 : decode cX9_digest 245 = .ok (.aload_n 0, 1) := by decide +kernel
theorem dX9_digest_246 : decode cX9_digest 246 = .ok (.iload_n 1, 1) := by decide +kernel
theorem dX9_digest_247 : decode cX9_digest 247 = .ok (.iconst 0, 1) := by decide +kernel
theorem dX9_digest_248 : decode cX9_digest 248 = .ok (.invokevirtual 98, 3) := by decide +kernel
theorem dX9_digest_251 : decode cX9_digest 251 = .ok (.invokevirtual 183, 3) := by decide +kernel
theorem dX9_digest_254 : decode cX9_digest 254 = .ok (.aload_n 0, 1) := by decide +kernel
theorem dX9_digest_255 : decode cX9_digest 255 = .ok (.aload_n 0, 1) := by decide +kernel
theorem dX9_digest_256 : decode cX9_digest 256 = .ok (.iload_n 1, 1) := by decide +kernel
theorem dX9_digest_257 : decode cX9_digest 257 = .ok (.iconst 1, 1) := by decide +kernel
theorem dX9_digest_258 : decode cX9_digest 258 = .ok (.invokevirtual 98, 3) := by decide +kernel
theorem dX9_digest_261 : decode cX9_digest 261 = .ok (.invokevirtual 183, 3) := by decide +kernel
theorem dX9_digest_264 : decode cX9_digest 264 = .ok (.iinc 1 1, 3) := by decide +kernel
theorem dX9_digest_267 : decode cX9_digest 267 = .ok (.goto (-103), 3) := by decide +kernel
theorem dX9_digest_270 : decode cX9_digest 270 = .ok (.aload_n 0, 1) := by decide +kernel
theorem dX9_digest_271 : decode cX9_digest 271 = .ok (.aload_n 0, 1) := by decide +kernel
theorem dX9_digest_272 : decode cX9_digest 272 = .ok (.getfield 7, 3) := by decide +kernel
theorem dX9_digest_275 : decode cX9_digest 275 = .ok (.bipush 18, 2) := by decide +kernel
theorem dX9_digest_277 : decode cX9_digest 277 = .ok (.iaload, 1) := by decide +kernel
theorem dX9_digest_278 : decode cX9_digest 278 = .ok (.invokevirtual 183, 3) := by decide +kernel
theorem dX9_digest_281 : decode cX9_digest 281 = .ok (.iconst 0, 1) := by decide +kernel
theorem dX9_digest_282 : decode cX9_digest 282 = .ok (.istore_n 1, 1) := by decide +kernel
theorem dX9_digest_283 : decode cX9_digest 283 = .ok (.iload_n 1, 1) := by decide +kernel
theorem dX9_digest_284 : decode cX9_digest 284 = .ok (.aload_n 0, 1) := by decide +kernel
theorem dX9_digest_285 : decode cX9_digest 285 = .ok (.getfield 7, 3) := by decide +kernel
theorem dX9_digest_288 : decode cX9_digest 288 = .ok (.bipush 18, 2) := by decide +kernel
theorem dX9_digest_290 : decode cX9_digest 290 = .ok (.iaload, 1) := by decide +kernel
theorem dX9_digest_291 : decode cX9_digest 291 = .ok (.if_icmp .ge 23, 3) := by decide +kernel
theorem dX9_digest_294 : decode cX9_digest 294 = .ok (.aload_n 0, 1) := by decide +kernel
theorem dX9_digest_295 : decode cX9_digest 295 = .ok (.aload_n 0, 1) := by decide +kernel
theorem dX9_digest_296 : decode cX9_digest 296 = .ok (.getfield 7, 3) := by decide +kernel
theorem dX9_digest_299 : decode cX9_digest 299 = .ok (.sipush 267, 3) := by decide +kernel
theorem dX9_digest_302 : decode cX9_digest 302 = .ok (.iload_n 1, 1) := by decide +kernel
theorem dX9_digest_303 : decode cX9_digest 303 = .ok (.iadd, 1) := by decide +kernel
theorem dX9_digest_304 : decode cX9_digest 304 = .ok (.iaload, 1) := by decide +kernel
theorem dX9_digest_305 : decode cX9_digest 305 = .ok (.invokevirtual 183, 3) := by decide +kernel
theorem dX9_digest_308 : decode cX9_digest 308 = .ok (.iinc 1 1, 3) := by decide +kernel
theorem dX9_digest_311 : decode cX9_digest 311 = .ok (.goto (-28), 3) := by decide +kernel
theorem dX9_digest_314 : decode cX9_digest 314 = .ok (.iconst 1, 1) := by decide +kernel
theorem dX9_digest_315 : decode cX9_digest 315 = .ok (.istore_n 1, 1) := by decide +kernel
theorem dX9_digest_316 : decode cX9_digest 316 = .ok (.iload_n 1, 1) := by decide +kernel
theorem dX9_digest_317 : decode cX9_digest 317 = .ok (.bipush 8, 2) := by decide +kernel
theorem dX9_digest_319 : decode cX9_digest 319 = .ok (.if_icmp .gt 22, 3) := by decide +kernel
theorem dX9_digest_322 : decode cX9_digest 322 = .ok (.aload_n 0, 1) := by decide +kernel
theorem dX9_digest_323 : decode cX9_digest 323 = .ok (.aload_n 0, 1) := by decide +kernel
theorem dX9_digest_324 : decode cX9_digest 324 = .ok (.getfield 7, 3) := by decide +kernel
theorem dX9_digest_327 : decode cX9_digest 327 = .ok (.bipush 6, 2) := by decide +kernel
theorem dX9_digest_329 : decode cX9_digest 329 = .ok (.iload_n 1, 1) := by decide +kernel
theorem dX9_digest_330 : decode cX9_digest 330 = .ok (.iadd, 1) := by decide +kernel
theorem dX9_digest_331 : decode cX9_digest 331 = .ok (.iaload, 1) := by decide +kernel
theorem dX9_digest_332 : decode cX9_digest 332 = .ok (.invokevirtual 183, 3) := by decide +kernel
theorem dX9_digest_335 : decode cX9_digest 335 = .ok (.iinc 1 1, 3) := by decide +kernel
theorem dX9_digest_338 : decode cX9_digest 338 = .ok (.goto (-22), 3) := by decide +kernel
theorem dX9_digest_341 : decode cX9_digest 341 = .ok (.aload_n 0, 1) := by decide +kernel
theorem dX9_digest_342 : decode cX9_digest 342 = .ok (.getfield 177, 3) := by decide +kernel
theorem dX9_digest_345 : decode cX9_digest 345 = .ok (.lreturn, 1) := by decide +kernel
theorem dJ6_bitCount_0f7a4_0 : decode cJ6_bitCount_0f7a4 0 = .ok (.iload_n 0, 1) := by decide +kernel
theorem dJ6_bitCount_0f7a4_1 : decode cJ6_bitCount_0f7a4 1 = .ok (.iload_n 0, 1) := by decide +kernel
theorem dJ6_bitCount_0f7a4_2 : decode cJ6_bitCount_0f7a4 2 = .ok (.iconst 1, 1) := by decide +kernel
theorem dJ6_bitCount_0f7a4_3 : decode cJ6_bitCount_0f7a4 3 = .ok (.iushr, 1) := by decide +kernel
theorem dJ6_bitCount_0f7a4_4 : decode cJ6_bitCount_0f7a4 4 = .ok (.ldc_w 265, 3) := by decide +kernel
theorem dJ6_bitCount_0f7a4_7 : decode cJ6_bitCount_0f7a4 7 = .ok (.iand, 1) := by decide +kernel
theorem dJ6_bitCount_0f7a4_8 : decode cJ6_bitCount_0f7a4 8 = .ok (.isub, 1) := by decide +kernel
theorem dJ6_bitCount_0f7a4_9 : decode cJ6_bitCount_0f7a4 9 = .ok (.istore_n 0, 1) := by decide +kernel
theorem dJ6_bitCount_0f7a4_10 : decode cJ6_bitCount_0f7a4 10 = .ok (.iload_n 0, 1) := by decide +kernel
theorem dJ6_bitCount_0f7a4_11 : decode cJ6_bitCount_0f7a4 11 = .ok (.ldc_w 266, 3) := by decide +kernel
theorem dJ6_bitCount_0f7a4_14 : decode cJ6_bitCount_0f7a4 14 = .ok (.iand, 1) := by decide +kernel
theorem dJ6_bitCount_0f7a4_15 : decode cJ6_bitCount_0f7a4 15 = .ok (.iload_n 0, 1) := by decide +kernel
theorem dJ6_bitCount_0f7a4_16 : decode cJ6_bitCount_0f7a4 16 = .ok (.iconst 2, 1) := by decide +kernel
theorem dJ6_bitCount_0f7a4_17 : decode cJ6_bitCount_0f7a4 17 = .ok (.iushr, 1) := by decide +kernel
theorem dJ6_bitCount_0f7a4_18 : decode cJ6_bitCount_0f7a4 18 = .ok (.ldc_w 266, 3) := by decide +kernel
theorem dJ6_bitCount_0f7a4_21 : decode cJ6_bitCount_0f7a4 21 = .ok (.iand, 1) := by decide +kernel
theorem dJ6_bitCount_0f7a4_22 : decode cJ6_bitCount_0f7a4 22 = .ok (.iadd, 1) := by decide +kernel
theorem dJ6_bitCount_0f7a4_23 : decode cJ6_bitCount_0f7a4 23 = .ok (.istore_n 0, 1) := by decide +kernel
theorem dJ6_bitCount_0f7a4_24 : decode cJ6_bitCount_0f7a4 24 = .ok (.iload_n 0, 1) := by decide +kernel
theorem dJ6_bitCount_0f7a4_25 : decode cJ6_bitCount_0f7a4 25 = .ok (.iload_n 0, 1) := by decide +kernel
theorem dJ6_bitCount_0f7a4_26 : decode cJ6_bitCount_0f7a4 26 = .ok (.iconst 4, 1) := by decide +kernel
theorem dJ6_bitCount_0f7a4_27 : decode cJ6_bitCount_0f7a4 27 = .ok (.iushr, 1) := by decide +kernel
theorem dJ6_bitCount_0f7a4_28 : decode cJ6_bitCount_0f7a4 28 = .ok (.iadd, 1) := by decide +kernel
theorem dJ6_bitCount_0f7a4_29 : decode cJ6_bitCount_0f7a4 29 = .ok (.ldc_w 267, 3) := by decide +kernel
theorem dJ6_bitCount_0f7a4_32 : decode cJ6_bitCount_0f7a4 32 = .ok (.iand, 1) := by decide +kernel
theorem dJ6_bitCount_0f7a4_33 : decode cJ6_bitCount_0f7a4 33 = .ok (.istore_n 0, 1) := by decide +kernel
theorem dJ6_bitCount_0f7a4_34 : decode cJ6_bitCount_0f7a4 34 = .ok (.iload_n 0, 1) := by decide +kernel
theorem dJ6_bitCount_0f7a4_35 : decode cJ6_bitCount_0f7a4 35 = .ok (.iload_n 0, 1) := by decide +kernel
theorem dJ6_bitCount_0f7a4_36 : decode cJ6_bitCount_0f7a4 36 = .ok (.bipush 8, 2) := by decide +kernel
theorem dJ6_bitCount_0f7a4_38 : decode cJ6_bitCount_0f7a4 38 = .ok (.iushr, 1) := by decide +kernel
theorem dJ6_bitCount_0f7a4_39 : decode cJ6_bitCount_0f7a4 39 = .ok (.iadd, 1) := by decide +kernel
theorem dJ6_bitCount_0f7a4_40 : decode cJ6_bitCount_0f7a4 40 = .ok (.istore_n 0, 1) := by decide +kernel
theorem dJ6_bitCount_0f7a4_41 : decode cJ6_bitCount_0f7a4 41 = .ok (.iload_n 0, 1) := by decide +kernel
theorem dJ6_bitCount_0f7a4_42 : decode cJ6_bitCount_0f7a4 42 = .ok (.iload_n 0, 1) := by decide +kernel
theorem dJ6_bitCount_0f7a4_43 : decode cJ6_bitCount_0f7a4 43 = .ok (.bipush 16, 2) := by decide +kernel
theorem dJ6_bitCount_0f7a4_45 : decode cJ6_bitCount_0f7a4 45 = .ok (.iushr, 1) := by decide +kernel
theorem dJ6_bitCount_0f7a4_46 : decode cJ6_bitCount_0f7a4 46 = .ok (.iadd, 1) := by decide +kernel
theorem dJ6_bitCount_0f7a4_47 : decode cJ6_bitCount_0f7a4 47 = .ok (.istore_n 0, 1) := by decide +kernel
theorem dJ6_bitCount_0f7a4_48 : decode cJ6_bitCount_0f7a4 48 = .ok (.iload_n 0, 1) := by decide +kernel
theorem dJ6_bitCount_0f7a4_49 : decode cJ6_bitCount_0f7a4 49 = .ok (.bipush 63, 2) := by decide +kernel
theorem dJ6_bitCount_0f7a4_51 : decode cJ6_bitCount_0f7a4 51 = .ok (.iand, 1) := by decide +kernel
theorem dJ6_bitCount_0f7a4_52 : decode cJ6_bitCount_0f7a4 52 = .ok (.ireturn, 1) := by decide +kernel
theorem dJ9_min_7cf53_0 : decode cJ9_min_7cf53 0 = .ok (.iload_n 0, 1) := by decide +kernel
theorem dJ9_min_7cf53_1 : decode cJ9_min_7cf53 1 = .ok (.iload_n 1, 1) := by decide +kernel
theorem dJ9_min_7cf53_2 : decode cJ9_min_7cf53 2 = .ok (.if_icmp .gt 7, 3) := by decide +kernel
theorem dJ9_min_7cf53_5 : decode cJ9_min_7cf53 5 = .ok (.iload_n 0, 1) := by decide +kernel
theorem dJ9_min_7cf53_6 : decode cJ9_min_7cf53 6 = .ok (.goto 4, 3) := by decide +kernel
theorem dJ9_min_7cf53_9 : decode cJ9_min_7cf53 9 = .ok (.iload_n 1, 1) := by decide +kernel
theorem dJ9_min_7cf53_10 : decode cJ9_min_7cf53 10 = .ok (.ireturn, 1) := by decide +kernel
theorem dL_law_0 : decode cL_law 0 = .ok (.new 7, 3) := by decide +kernel
theorem dL_law_3 : decode cL_law 3 = .ok (.dup, 1) := by decide +kernel
theorem dL_law_4 : decode cL_law 4 = .ok (.invokespecial 9, 3) := by decide +kernel
theorem dL_law_7 : decode cL_law 7 = .ok (.astore_n 1, 1) := by decide +kernel
theorem dL_law_8 : decode cL_law 8 = .ok (.new 10, 3) := by decide +kernel
theorem dL_law_11 : decode cL_law 11 = .ok (.dup, 1) := by decide +kernel
theorem dL_law_12 : decode cL_law 12 = .ok (.invokespecial 12, 3) := by decide +kernel
theorem dL_law_15 : decode cL_law 15 = .ok (.astore_n 2, 1) := by decide +kernel
theorem dL_law_16 : decode cL_law 16 = .ok (.iconst 0, 1) := by decide +kernel
theorem dL_law_17 : decode cL_law 17 = .ok (.istore_n 3, 1) := by decide +kernel
theorem dL_law_18 : decode cL_law 18 = .ok (.iload_n 3, 1) := by decide +kernel
theorem dL_law_19 : decode cL_law 19 = .ok (.aload_n 0, 1) := by decide +kernel
theorem dL_law_20 : decode cL_law 20 = .ok (.arraylength, 1) := by decide +kernel
theorem dL_law_21 : decode cL_law 21 = .ok (.iconst 3, 1) := by decide +kernel
theorem dL_law_22 : decode cL_law 22 = .ok (.isub, 1) := by decide +kernel
theorem dL_law_23 : decode cL_law 23 = .ok (.if_icmp .gt 852, 3) := by decide +kernel
theorem dL_law_26 : decode cL_law 26 = .ok (.aload_n 0, 1) := by decide +kernel
theorem dL_law_27 : decode cL_law 27 = .ok (.iload_n 3, 1) := by decide +kernel
theorem dL_law_28 : decode cL_law 28 = .ok (.iaload, 1) := by decide +kernel
theorem dL_law_29 : decode cL_law 29 = .ok (.bipush 31, 2) := by decide +kernel
theorem dL_law_31 : decode cL_law 31 = .ok (.iand, 1) := by decide +kernel
theorem dL_law_32 : decode cL_law 32 = .ok (.tableswitch 837 0 29 #[136, 169, 202, 225, 258, 291, 314, 347, 370, 393, 416, 439, 452, 475, 498, 511, 524, 547, 570, 593, 616, 639, 662, 685, 708, 741, 764, 787, 800, 823], 136) := by decide +kernel
theorem dL_law_168 : decode cL_law 168 = .ok (.aload_n 1, 1) := by decide +kernel
theorem dL_law_169 : decode cL_law 169 = .ok (.aload_n 0, 1) := by decide +kernel
theorem dL_law_170 : decode cL_law 170 = .ok (.iload_n 3, 1) := by decide +kernel
theorem dL_law_171 : decode cL_law 171 = .ok (.iconst 1, 1) := by decide +kernel
theorem dL_law_172 : decode cL_law 172 = .ok (.iadd, 1) := by decide +kernel
theorem dL_law_173 : decode cL_law 173 = .ok (.iaload, 1) := by decide +kernel
theorem dL_law_174 : decode cL_law 174 = .ok (.aload_n 0, 1) := by decide +kernel
theorem dL_law_175 : decode cL_law 175 = .ok (.iload_n 3, 1) := by decide +kernel
theorem dL_law_176 : decode cL_law 176 = .ok (.iconst 2, 1) := by decide +kernel
theorem dL_law_177 : decode cL_law 177 = .ok (.iadd, 1) := by decide +kernel
theorem dL_law_178 : decode cL_law 178 = .ok (.iaload, 1) := by decide +kernel
theorem dL_law_179 : decode cL_law 179 = .ok (.invokevirtual 13, 3) := by decide +kernel
theorem dL_law_182 : decode cL_law 182 = .ok (.aload_n 2, 1) := by decide +kernel
theorem dL_law_183 : decode cL_law 183 = .ok (.aload_n 0, 1) := by decide +kernel
theorem dL_law_184 : decode cL_law 184 = .ok (.iload_n 3, 1) := by decide +kernel
theorem dL_law_185 : decode cL_law 185 = .ok (.iconst 1, 1) := by decide +kernel
theorem dL_law_186 : decode cL_law 186 = .ok (.iadd, 1) := by decide +kernel
theorem dL_law_187 : decode cL_law 187 = .ok (.iaload, 1) := by decide +kernel
theorem dL_law_188 : decode cL_law 188 = .ok (.aload_n 0, 1) := by decide +kernel
theorem dL_law_189 : decode cL_law 189 = .ok (.iload_n 3, 1) := by decide +kernel
theorem dL_law_190 : decode cL_law 190 = .ok (.iconst 2, 1) := by decide +kernel
theorem dL_law_191 : decode cL_law 191 = .ok (.iadd, 1) := by decide +kernel
theorem dL_law_192 : decode cL_law 192 = .ok (.iaload, 1) := by decide +kernel
theorem dL_law_193 : decode cL_law 193 = .ok (.invokevirtual 17, 3) := by decide +kernel
theorem dL_law_196 : decode cL_law 196 = .ok (.if_icmp .eq 673, 3) := by decide +kernel
theorem dL_law_199 : decode cL_law 199 = .ok (.iconst 0, 1) := by decide +kernel
theorem dL_law_200 : decode cL_law 200 = .ok (.ireturn, 1) := by decide +kernel
theorem dL_law_201 : decode cL_law 201 = .ok (.aload_n 1, 1) := by decide +kernel
theorem dL_law_202 : decode cL_law 202 = .ok (.aload_n 0, 1) := by decide +kernel
theorem dL_law_203 : decode cL_law 203 = .ok (.iload_n 3, 1) := by decide +kernel
theorem dL_law_204 : decode cL_law 204 = .ok (.iconst 1, 1) := by decide +kernel
theorem dL_law_205 : decode cL_law 205 = .ok (.iadd, 1) := by decide +kernel
theorem dL_law_206 : decode cL_law 206 = .ok (.iaload, 1) := by decide +kernel
theorem dL_law_207 : decode cL_law 207 = .ok (.aload_n 0, 1) := by decide +kernel
theorem dL_law_208 : decode cL_law 208 = .ok (.iload_n 3, 1) := by decide +kernel
theorem dL_law_209 : decode cL_law 209 = .ok (.iconst 2, 1) := by decide +kernel
theorem dL_law_210 : decode cL_law 210 = .ok (.iadd, 1) := by decide +kernel
theorem dL_law_211 : decode cL_law 211 = .ok (.iaload, 1) := by decide +kernel
theorem dL_law_212 : decode cL_law 212 = .ok (.invokevirtual 18, 3) := by decide +kernel
theorem dL_law_215 : decode cL_law 215 = .ok (.aload_n 2, 1) := by decide +kernel
theorem dL_law_216 : decode cL_law 216 = .ok (.aload_n 0, 1) := by decide +kernel
theorem dL_law_217 : decode cL_law 217 = .ok (.iload_n 3, 1) := by decide +kernel
theorem dL_law_218 : decode cL_law 218 = .ok (.iconst 1, 1) := by decide +kernel
theorem dL_law_219 : decode cL_law 219 = .ok (.iadd, 1) := by decide +kernel
theorem dL_law_220 : decode cL_law 220 = .ok (.iaload, 1) := by decide +kernel
theorem dL_law_221 : decode cL_law 221 = .ok (.aload_n 0, 1) := by decide +kernel
theorem dL_law_222 : decode cL_law 222 = .ok (.iload_n 3, 1) := by decide +kernel
theorem dL_law_223 : decode cL_law 223 = .ok (.iconst 2, 1) := by decide +kernel
theorem dL_law_224 : decode cL_law 224 = .ok (.iadd, 1) := by decide +kernel
theorem dL_law_225 : decode cL_law 225 = .ok (.iaload, 1) := by decide +kernel
theorem dL_law_226 : decode cL_law 226 = .ok (.invokevirtual 21, 3) := by decide +kernel
theorem dL_law_229 : decode cL_law 229 = .ok (.if_icmp .eq 640, 3) := by decide +kernel
theorem dL_law_232 : decode cL_law 232 = .ok (.iconst 0, 1) := by decide +kernel
theorem dL_law_233 : decode cL_law 233 = .ok (.ireturn, 1) := by decide +kernel
theorem dL_law_234 : decode cL_law 234 = .ok (.aload_n 1, 1) := by decide +kernel
theorem dL_law_235 : decode cL_law 235 = .ok (.aload_n 0, 1) := by decide +kernel
theorem dL_law_236 : decode cL_law 236 = .ok (.iload_n 3, 1) := by decide +kernel
theorem dL_law_237 : decode cL_law 237 = .ok (.iconst 1, 1) := by decide +kernel
theorem dL_law_238 : decode cL_law 238 = .ok (.iadd, 1) := by decide +kernel
theorem dL_law_239 : decode cL_law 239 = .ok (.iaload, 1) := by decide +kernel
theorem dL_law_240 : decode cL_law 240 = .ok (.invokevirtual 22, 3) := by decide +kernel
theorem dL_law_243 : decode cL_law 243 = .ok (.aload_n 2, 1) := by decide +kernel
theorem dL_law_244 : decode cL_law 244 = .ok (.aload_n 0, 1) := by decide +kernel
theorem dL_law_245 : decode cL_law 245 = .ok (.iload_n 3, 1) := by decide +kernel
theorem dL_law_246 : decode cL_law 246 = .ok (.iconst 1, 1) := by decide +kernel
theorem dL_law_247 : decode cL_law 247 = .ok (.iadd, 1) := by decide +kernel
theorem dL_law_248 : decode cL_law 248 = .ok (.iaload, 1) := by decide +kernel
theorem dL_law_249 : decode cL_law 249 = .ok (.invokevirtual 26, 3) := by decide +kernel
theorem dL_law_252 : decode cL_law 252 = .ok (.if_icmp .eq 617, 3) := by decide +kernel
theorem dL_law_255 : decode cL_law 255 = .ok (.iconst 0, 1) := by decide +kernel
theorem dL_law_256 : decode cL_law 256 = .ok (.ireturn, 1) := by decide +kernel
theorem dL_law_257 : decode cL_law 257 = .ok (.aload_n 1, 1) := by decide +kernel
theorem dL_law_258 : decode cL_law 258 = .ok (.aload_n 0, 1) := by decide +kernel
theorem dL_law_259 : decode cL_law 259 = .ok (.iload_n 3, 1) := by decide +kernel
theorem dL_law_260 : decode cL_law 260 = .ok (.iconst 1, 1) := by decide +kernel
theorem dL_law_261 : decode cL_law 261 = .ok (.iadd, 1) := by decide +kernel
theorem dL_law_262 : decode cL_law 262 = .ok (.iaload, 1) := by decide +kernel
theorem dL_law_263 : decode cL_law 263 = .ok (.aload_n 0, 1) := by decide +kernel
theorem dL_law_264 : decode cL_law 264 = .ok (.iload_n 3, 1) := by decide +kernel
theorem dL_law_265 : decode cL_law 265 = .ok (.iconst 2, 1) := by decide +kernel
theorem dL_law_266 : decode cL_law 266 = .ok (.iadd, 1) := by decide +kernel
theorem dL_law_267 : decode cL_law 267 = .ok (.iaload, 1) := by decide +kernel
theorem dL_law_268 : decode cL_law 268 = .ok (.invokevirtual 27, 3) := by decide +kernel
theorem dL_law_271 : decode cL_law 271 = .ok (.aload_n 2, 1) := by decide +kernel
theorem dL_law_272 : decode cL_law 272 = .ok (.aload_n 0, 1) := by decide +kernel
theorem dL_law_273 : decode cL_law 273 = .ok (.iload_n 3, 1) := by decide +kernel
theorem dL_law_274 : decode cL_law 274 = .ok (.iconst 1, 1) := by decide +kernel
theorem dL_law_275 : decode cL_law 275 = .ok (.iadd, 1) := by decide +kernel
theorem dL_law_276 : decode cL_law 276 = .ok (.iaload, 1) := by decide +kernel
theorem dL_law_277 : decode cL_law 277 = .ok (.aload_n 0, 1) := by decide +kernel
theorem dL_law_278 : decode cL_law 278 = .ok (.iload_n 3, 1) := by decide +kernel
theorem dL_law_279 : decode cL_law 279 = .ok (.iconst 2, 1) := by decide +kernel
theorem dL_law_280 : decode cL_law 280 = .ok (.iadd, 1) := by decide +kernel
theorem dL_law_281 : decode cL_law 281 = .ok (.iaload, 1) := by decide +kernel
theorem dL_law_282 : decode cL_law 282 = .ok (.invokevirtual 30, 3) := by decide +kernel
theorem dL_law_285 : decode cL_law 285 = .ok (.if_icmp .eq 584, 3) := by decide +kernel
theorem dL_law_288 : decode cL_law 288 = .ok (.iconst 0, 1) := by decide +kernel
theorem dL_law_289 : decode cL_law 289 = .ok (.ireturn, 1) := by decide +kernel
theorem dL_law_290 : decode cL_law 290 = .ok (.aload_n 1, 1) := by decide +kernel
theorem dL_law_291 : decode cL_law 291 = .ok (.aload_n 0, 1) := by decide +kernel
theorem dL_law_292 : decode cL_law 292 = .ok (.iload_n 3, 1) := by decide +kernel
theorem dL_law_293 : decode cL_law 293 = .ok (.iconst 1, 1) := by decide +kernel
theorem dL_law_294 : decode cL_law 294 = .ok (.iadd, 1) := by decide +kernel
theorem dL_law_295 : decode cL_law 295 = .ok (.iaload, 1) := by decide +kernel
theorem dL_law_296 : decode cL_law 296 = .ok (.aload_n 0, 1) := by decide +kernel
theorem dL_law_297 : decode cL_law 297 = .ok (.iload_n 3, 1) := by decide +kernel
theorem dL_law_298 : decode cL_law 298 = .ok (.iconst 2, 1) := by decide +kernel
theorem dL_law_299 : decode cL_law 299 = .ok (.iadd, 1) := by decide +kernel
theorem dL_law_300 : decode cL_law 300 = .ok (.iaload, 1) := by decide +kernel
theorem dL_law_301 : decode cL_law 301 = .ok (.invokevirtual 31, 3) := by decide +kernel
theorem dL_law_304 : decode cL_law 304 = .ok (.aload_n 2, 1) := by decide +kernel
theorem dL_law_305 : decode cL_law 305 = .ok (.aload_n 0, 1) := by decide +kernel
theorem dL_law_306 : decode cL_law 306 = .ok (.iload_n 3, 1) := by decide +kernel
theorem dL_law_307 : decode cL_law 307 = .ok (.iconst 1, 1) := by decide +kernel
theorem dL_law_308 : decode cL_law 308 = .ok (.iadd, 1) := by decide +kernel
theorem dL_law_309 : decode cL_law 309 = .ok (.iaload, 1) := by decide +kernel
theorem dL_law_310 : decode cL_law 310 = .ok (.aload_n 0, 1) := by decide +kernel
theorem dL_law_311 : decode cL_law 311 = .ok (.iload_n 3, 1) := by decide +kernel
theorem dL_law_312 : decode cL_law 312 = .ok (.iconst 2, 1) := by decide +kernel
theorem dL_law_313 : decode cL_law 313 = .ok (.iadd, 1) := by decide +kernel
theorem dL_law_314 : decode cL_law 314 = .ok (.iaload, 1) := by decide +kernel
theorem dL_law_315 : decode cL_law 315 = .ok (.invokevirtual 34, 3) := by decide +kernel
theorem dL_law_318 : decode cL_law 318 = .ok (.if_icmp .eq 551, 3) := by decide +kernel
theorem dL_law_321 : decode cL_law 321 = .ok (.iconst 0, 1) := by decide +kernel
theorem dL_law_322 : decode cL_law 322 = .ok (.ireturn, 1) := by decide +kernel
theorem dL_law_323 : decode cL_law 323 = .ok (.aload_n 1, 1) := by decide +kernel
theorem dL_law_324 : decode cL_law 324 = .ok (.aload_n 0, 1) := by decide +kernel
theorem dL_law_325 : decode cL_law 325 = .ok (.iload_n 3, 1) := by decide +kernel
theorem dL_law_326 : decode cL_law 326 = .ok (.iconst 1, 1) := by decide +kernel
theorem dL_law_327 : decode cL_law 327 = .ok (.iadd, 1) := by decide +kernel
theorem dL_law_328 : decode cL_law 328 = .ok (.iaload, 1) := by decide +kernel
theorem dL_law_329 : decode cL_law 329 = .ok (.invokevirtual 35, 3) := by decide +kernel
theorem dL_law_332 : decode cL_law 332 = .ok (.aload_n 2, 1) := by decide +kernel
theorem dL_law_333 : decode cL_law 333 = .ok (.aload_n 0, 1) := by decide +kernel
theorem dL_law_334 : decode cL_law 334 = .ok (.iload_n 3, 1) := by decide +kernel
theorem dL_law_335 : decode cL_law 335 = .ok (.iconst 1, 1) := by decide +kernel
theorem dL_law_336 : decode cL_law 336 = .ok (.iadd, 1) := by decide +kernel
theorem dL_law_337 : decode cL_law 337 = .ok (.iaload, 1) := by decide +kernel
theorem dL_law_338 : decode cL_law 338 = .ok (.invokevirtual 38, 3) := by decide +kernel
theorem dL_law_341 : decode cL_law 341 = .ok (.if_icmp .eq 528, 3) := by decide +kernel
theorem dL_law_344 : decode cL_law 344 = .ok (.iconst 0, 1) := by decide +kernel
theorem dL_law_345 : decode cL_law 345 = .ok (.ireturn, 1) := by decide +kernel
theorem dL_law_346 : decode cL_law 346 = .ok (.aload_n 1, 1) := by decide +kernel
theorem dL_law_347 : decode cL_law 347 = .ok (.aload_n 0, 1) := by decide +kernel
theorem dL_law_348 : decode cL_law 348 = .ok (.iload_n 3, 1) := by decide +kernel
theorem dL_law_349 : decode cL_law 349 = .ok (.iconst 1, 1) := by decide +kernel
theorem dL_law_350 : decode cL_law 350 = .ok (.iadd, 1) := by decide +kernel
theorem dL_law_351 : decode cL_law 351 = .ok (.iaload, 1) := by decide +kernel
theorem dL_law_352 : decode cL_law 352 = .ok (.aload_n 0, 1) := by decide +kernel
theorem dL_law_353 : decode cL_law 353 = .ok (.iload_n 3, 1) := by decide +kernel
theorem dL_law_354 : decode cL_law 354 = .ok (.iconst 2, 1) := by decide +kernel
theorem dL_law_355 : decode cL_law 355 = .ok (.iadd, 1) := by decide +kernel
theorem dL_law_356 : decode cL_law 356 = .ok (.iaload, 1) := by decide +kernel
theorem dL_law_357 : decode cL_law 357 = .ok (.invokevirtual 39, 3) := by decide +kernel
theorem dL_law_360 : decode cL_law 360 = .ok (.aload_n 2, 1) := by decide +kernel
theorem dL_law_361 : decode cL_law 361 = .ok (.aload_n 0, 1) := by decide +kernel
theorem dL_law_362 : decode cL_law 362 = .ok (.iload_n 3, 1) := by decide +kernel
theorem dL_law_363 : decode cL_law 363 = .ok (.iconst 1, 1) := by decide +kernel
theorem dL_law_364 : decode cL_law 364 = .ok (.iadd, 1) := by decide +kernel
theorem dL_law_365 : decode cL_law 365 = .ok (.iaload, 1) := by decide +kernel
theorem dL_law_366 : decode cL_law 366 = .ok (.aload_n 0, 1) := by decide +kernel
theorem dL_law_367 : decode cL_law 367 = .ok (.iload_n 3, 1) := by decide +kernel
theorem dL_law_368 : decode cL_law 368 = .ok (.iconst 2, 1) := by decide +kernel
theorem dL_law_369 : decode cL_law 369 = .ok (.iadd, 1) := by decide +kernel
theorem dL_law_370 : decode cL_law 370 = .ok (.iaload, 1) := by decide +kernel
theorem dL_law_371 : decode cL_law 371 = .ok (.invokevirtual 42, 3) := by decide +kernel
theorem dL_law_374 : decode cL_law 374 = .ok (.if_icmp .eq 495, 3) := by decide +kernel
theorem dL_law_377 : decode cL_law 377 = .ok (.iconst 0, 1) := by decide +kernel
theorem dL_law_378 : decode cL_law 378 = .ok (.ireturn, 1) := by decide +kernel
theorem dL_law_379 : decode cL_law 379 = .ok (.aload_n 1, 1) := by decide +kernel
theorem dL_law_380 : decode cL_law 380 = .ok (.aload_n 0, 1) := by decide +kernel
theorem dL_law_381 : decode cL_law 381 = .ok (.iload_n 3, 1) := by decide +kernel
theorem dL_law_382 : decode cL_law 382 = .ok (.iconst 1, 1) := by decide +kernel
theorem dL_law_383 : decode cL_law 383 = .ok (.iadd, 1) := by decide +kernel
theorem dL_law_384 : decode cL_law 384 = .ok (.iaload, 1) := by decide +kernel
theorem dL_law_385 : decode cL_law 385 = .ok (.invokevirtual 43, 3) := by decide +kernel
theorem dL_law_388 : decode cL_law 388 = .ok (.aload_n 2, 1) := by decide +kernel
theorem dL_law_389 : decode cL_law 389 = .ok (.aload_n 0, 1) := by decide +kernel
theorem dL_law_390 : decode cL_law 390 = .ok (.iload_n 3, 1) := by decide +kernel
theorem dL_law_391 : decode cL_law 391 = .ok (.iconst 1, 1) := by decide +kernel
theorem dL_law_392 : decode cL_law 392 = .ok (.iadd, 1) := by decide +kernel
theorem dL_law_393 : decode cL_law 393 = .ok (.iaload, 1) := by decide +kernel
theorem dL_law_394 : decode cL_law 394 = .ok (.invokevirtual 46, 3) := by decide +kernel
theorem dL_law_397 : decode cL_law 397 = .ok (.if_icmp .eq 472, 3) := by decide +kernel
theorem dL_law_400 : decode cL_law 400 = .ok (.iconst 0, 1) := by decide +kernel
theorem dL_law_401 : decode cL_law 401 = .ok (.ireturn, 1) := by decide +kernel
theorem dL_law_402 : decode cL_law 402 = .ok (.aload_n 1, 1) := by decide +kernel
theorem dL_law_403 : decode cL_law 403 = .ok (.aload_n 0, 1) := by decide +kernel
theorem dL_law_404 : decode cL_law 404 = .ok (.iload_n 3, 1) := by decide +kernel
theorem dL_law_405 : decode cL_law 405 = .ok (.iconst 1, 1) := by decide +kernel
theorem dL_law_406 : decode cL_law 406 = .ok (.iadd, 1) := by decide +kernel
theorem dL_law_407 : decode cL_law 407 = .ok (.iaload, 1) := by decide +kernel
theorem dL_law_408 : decode cL_law 408 = .ok (.invokevirtual 47, 3) := by decide +kernel
theorem dL_law_411 : decode cL_law 411 = .ok (.aload_n 2, 1) := by decide +kernel
theorem dL_law_412 : decode cL_law 412 = .ok (.aload_n 0, 1) := by decide +kernel
theorem dL_law_413 : decode cL_law 413 = .ok (.iload_n 3, 1) := by decide +kernel
theorem dL_law_414 : decode cL_law 414 = .ok (.iconst 1, 1) := by decide +kernel
theorem dL_law_415 : decode cL_law 415 = .ok (.iadd, 1) := by decide +kernel
theorem dL_law_416 : decode cL_law 416 = .ok (.iaload, 1) := by decide +kernel
theorem dL_law_417 : decode cL_law 417 = .ok (.invokevirtual 50, 3) := by decide +kernel
theorem dL_law_420 : decode cL_law 420 = .ok (.if_icmp .eq 449, 3) := by decide +kernel
theorem dL_law_423 : decode cL_law 423 = .ok (.iconst 0, 1) := by decide +kernel
theorem dL_law_424 : decode cL_law 424 = .ok (.ireturn, 1) := by decide +kernel
theorem dL_law_425 : decode cL_law 425 = .ok (.aload_n 1, 1) := by decide +kernel
theorem dL_law_426 : decode cL_law 426 = .ok (.aload_n 0, 1) := by decide +kernel
theorem dL_law_427 : decode cL_law 427 = .ok (.iload_n 3, 1) := by decide +kernel
theorem dL_law_428 : decode cL_law 428 = .ok (.iconst 1, 1) := by decide +kernel
theorem dL_law_429 : decode cL_law 429 = .ok (.iadd, 1) := by decide +kernel
theorem dL_law_430 : decode cL_law 430 = .ok (.iaload, 1) := by decide +kernel
theorem dL_law_431 : decode cL_law 431 = .ok (.invokevirtual 51, 3) := by decide +kernel
theorem dL_law_434 : decode cL_law 434 = .ok (.aload_n 2, 1) := by decide +kernel
theorem dL_law_435 : decode cL_law 435 = .ok (.aload_n 0, 1) := by decide +kernel
theorem dL_law_436 : decode cL_law 436 = .ok (.iload_n 3, 1) := by decide +kernel
theorem dL_law_437 : decode cL_law 437 = .ok (.iconst 1, 1) := by decide +kernel
theorem dL_law_438 : decode cL_law 438 = .ok (.iadd, 1) := by decide +kernel
theorem dL_law_439 : decode cL_law 439 = .ok (.iaload, 1) := by decide +kernel
theorem dL_law_440 : decode cL_law 440 = .ok (.invokevirtual 54, 3) := by decide +kernel
theorem dL_law_443 : decode cL_law 443 = .ok (.if_icmp .eq 426, 3) := by decide +kernel
theorem dL_law_446 : decode cL_law 446 = .ok (.iconst 0, 1) := by decide +kernel
theorem dL_law_447 : decode cL_law 447 = .ok (.ireturn, 1) := by decide +kernel
theorem dL_law_448 : decode cL_law 448 = .ok (.aload_n 1, 1) := by decide +kernel
theorem dL_law_449 : decode cL_law 449 = .ok (.aload_n 0, 1) := by decide +kernel
theorem dL_law_450 : decode cL_law 450 = .ok (.iload_n 3, 1) := by decide +kernel
theorem dL_law_451 : decode cL_law 451 = .ok (.iconst 1, 1) := by decide +kernel
theorem dL_law_452 : decode cL_law 452 = .ok (.iadd, 1) := by decide +kernel
theorem dL_law_453 : decode cL_law 453 = .ok (.iaload, 1) := by decide +kernel
theorem dL_law_454 : decode cL_law 454 = .ok (.invokevirtual 55, 3) := by decide +kernel
theorem dL_law_457 : decode cL_law 457 = .ok (.aload_n 2, 1) := by decide +kernel
theorem dL_law_458 : decode cL_law 458 = .ok (.aload_n 0, 1) := by decide +kernel
theorem dL_law_459 : decode cL_law 459 = .ok (.iload_n 3, 1) := by decide +kernel
theorem dL_law_460 : decode cL_law 460 = .ok (.iconst 1, 1) := by decide +kernel
theorem dL_law_461 : decode cL_law 461 = .ok (.iadd, 1) := by decide +kernel
theorem dL_law_462 : decode cL_law 462 = .ok (.iaload, 1) := by decide +kernel
theorem dL_law_463 : decode cL_law 463 = .ok (.invokevirtual 58, 3) := by decide +kernel
theorem dL_law_466 : decode cL_law 466 = .ok (.if_icmp .eq 403, 3) := by decide +kernel
theorem dL_law_469 : decode cL_law 469 = .ok (.iconst 0, 1) := by decide +kernel
theorem dL_law_470 : decode cL_law 470 = .ok (.ireturn, 1) := by decide +kernel
theorem dL_law_471 : decode cL_law 471 = .ok (.aload_n 1, 1) := by decide +kernel
theorem dL_law_472 : decode cL_law 472 = .ok (.invokevirtual 59, 3) := by decide +kernel
theorem dL_law_475 : decode cL_law 475 = .ok (.aload_n 2, 1) := by decide +kernel
theorem dL_law_476 : decode cL_law 476 = .ok (.invokevirtual 63, 3) := by decide +kernel
theorem dL_law_479 : decode cL_law 479 = .ok (.if_icmp .eq 390, 3) := by decide +kernel
theorem dL_law_482 : decode cL_law 482 = .ok (.iconst 0, 1) := by decide +kernel
theorem dL_law_483 : decode cL_law 483 = .ok (.ireturn, 1) := by decide +kernel
theorem dL_law_484 : decode cL_law 484 = .ok (.aload_n 1, 1) := by decide +kernel
theorem dL_law_485 : decode cL_law 485 = .ok (.aload_n 0, 1) := by decide +kernel
theorem dL_law_486 : decode cL_law 486 = .ok (.iload_n 3, 1) := by decide +kernel
theorem dL_law_487 : decode cL_law 487 = .ok (.iconst 1, 1) := by decide +kernel
theorem dL_law_488 : decode cL_law 488 = .ok (.iadd, 1) := by decide +kernel
theorem dL_law_489 : decode cL_law 489 = .ok (.iaload, 1) := by decide +kernel
theorem dL_law_490 : decode cL_law 490 = .ok (.invokevirtual 64, 3) := by decide +kernel
theorem dL_law_493 : decode cL_law 493 = .ok (.aload_n 2, 1) := by decide +kernel
theorem dL_law_494 : decode cL_law 494 = .ok (.aload_n 0, 1) := by decide +kernel
theorem dL_law_495 : decode cL_law 495 = .ok (.iload_n 3, 1) := by decide +kernel
theorem dL_law_496 : decode cL_law 496 = .ok (.iconst 1, 1) := by decide +kernel
theorem dL_law_497 : decode cL_law 497 = .ok (.iadd, 1) := by decide +kernel
theorem dL_law_498 : decode cL_law 498 = .ok (.iaload, 1) := by decide +kernel
theorem dL_law_499 : decode cL_law 499 = .ok (.invokevirtual 67, 3) := by decide +kernel
theorem dL_law_502 : decode cL_law 502 = .ok (.if_icmp .eq 367, 3) := by decide +kernel
theorem dL_law_505 : decode cL_law 505 = .ok (.iconst 0, 1) := by decide +kernel
theorem dL_law_506 : decode cL_law 506 = .ok (.ireturn, 1) := by decide +kernel
theorem dL_law_507 : decode cL_law 507 = .ok (.aload_n 1, 1) := by decide +kernel
theorem dL_law_508 : decode cL_law 508 = .ok (.aload_n 0, 1) := by decide +kernel
theorem dL_law_509 : decode cL_law 509 = .ok (.iload_n 3, 1) := by decide +kernel
theorem dL_law_510 : decode cL_law 510 = .ok (.iconst 1, 1) := by decide +kernel
theorem dL_law_511 : decode cL_law 511 = .ok (.iadd, 1) := by decide +kernel
theorem dL_law_512 : decode cL_law 512 = .ok (.iaload, 1) := by decide +kernel
theorem dL_law_513 : decode cL_law 513 = .ok (.invokevirtual 68, 3) := by decide +kernel
theorem dL_law_516 : decode cL_law 516 = .ok (.aload_n 2, 1) := by decide +kernel
theorem dL_law_517 : decode cL_law 517 = .ok (.aload_n 0, 1) := by decide +kernel
theorem dL_law_518 : decode cL_law 518 = .ok (.iload_n 3, 1) := by decide +kernel
theorem dL_law_519 : decode cL_law 519 = .ok (.iconst 1, 1) := by decide +kernel
theorem dL_law_520 : decode cL_law 520 = .ok (.iadd, 1) := by decide +kernel
theorem dL_law_521 : decode cL_law 521 = .ok (.iaload, 1) := by decide +kernel
theorem dL_law_522 : decode cL_law 522 = .ok (.invokevirtual 71, 3) := by decide +kernel
theorem dL_law_525 : decode cL_law 525 = .ok (.if_icmp .eq 344, 3) := by decide +kernel
theorem dL_law_528 : decode cL_law 528 = .ok (.iconst 0, 1) := by decide +kernel
theorem dL_law_529 : decode cL_law 529 = .ok (.ireturn, 1) := by decide +kernel
theorem dL_law_530 : decode cL_law 530 = .ok (.aload_n 1, 1) := by decide +kernel
theorem dL_law_531 : decode cL_law 531 = .ok (.invokevirtual 72, 3) := by decide +kernel
theorem dL_law_534 : decode cL_law 534 = .ok (.aload_n 2, 1) := by decide +kernel
theorem dL_law_535 : decode cL_law 535 = .ok (.invokevirtual 75, 3) := by decide +kernel
theorem dL_law_538 : decode cL_law 538 = .ok (.if_icmp .eq 331, 3) := by decide +kernel
theorem dL_law_541 : decode cL_law 541 = .ok (.iconst 0, 1) := by decide +kernel
theorem dL_law_542 : decode cL_law 542 = .ok (.ireturn, 1) := by decide +kernel
theorem dL_law_543 : decode cL_law 543 = .ok (.aload_n 1, 1) := by decide +kernel
theorem dL_law_544 : decode cL_law 544 = .ok (.invokevirtual 76, 3) := by decide +kernel
theorem dL_law_547 : decode cL_law 547 = .ok (.aload_n 2, 1) := by decide +kernel
theorem dL_law_548 : decode cL_law 548 = .ok (.invokevirtual 79, 3) := by decide +kernel
theorem dL_law_551 : decode cL_law 551 = .ok (.if_icmp .eq 318, 3) := by decide +kernel
theorem dL_law_554 : decode cL_law 554 = .ok (.iconst 0, 1) := by decide +kernel
theorem dL_law_555 : decode cL_law 555 = .ok (.ireturn, 1) := by decide +kernel
theorem dL_law_556 : decode cL_law 556 = .ok (.aload_n 1, 1) := by decide +kernel
theorem dL_law_557 : decode cL_law 557 = .ok (.aload_n 0, 1) := by decide +kernel
theorem dL_law_558 : decode cL_law 558 = .ok (.iload_n 3, 1) := by decide +kernel
theorem dL_law_559 : decode cL_law 559 = .ok (.iconst 1, 1) := by decide +kernel
theorem dL_law_560 : decode cL_law 560 = .ok (.iadd, 1) := by decide +kernel
theorem dL_law_561 : decode cL_law 561 = .ok (.iaload, 1) := by decide +kernel
theorem dL_law_562 : decode cL_law 562 = .ok (.invokevirtual 80, 3) := by decide +kernel
theorem dL_law_565 : decode cL_law 565 = .ok (.aload_n 2, 1) := by decide +kernel
theorem dL_law_566 : decode cL_law 566 = .ok (.aload_n 0, 1) := by decide +kernel
theorem dL_law_567 : decode cL_law 567 = .ok (.iload_n 3, 1) := by decide +kernel
theorem dL_law_568 : decode cL_law 568 = .ok (.iconst 1, 1) := by decide +kernel
theorem dL_law_569 : decode cL_law 569 = .ok (.iadd, 1) := by decide +kernel
theorem dL_law_570 : decode cL_law 570 = .ok (.iaload, 1) := by decide +kernel
theorem dL_law_571 : decode cL_law 571 = .ok (.invokevirtual 83, 3) := by decide +kernel
theorem dL_law_574 : decode cL_law 574 = .ok (.if_icmp .eq 295, 3) := by decide +kernel
theorem dL_law_577 : decode cL_law 577 = .ok (.iconst 0, 1) := by decide +kernel
theorem dL_law_578 : decode cL_law 578 = .ok (.ireturn, 1) := by decide +kernel
theorem dL_law_579 : decode cL_law 579 = .ok (.aload_n 1, 1) := by decide +kernel
theorem dL_law_580 : decode cL_law 580 = .ok (.aload_n 0, 1) := by decide +kernel
theorem dL_law_581 : decode cL_law 581 = .ok (.iload_n 3, 1) := by decide +kernel
theorem dL_law_582 : decode cL_law 582 = .ok (.iconst 1, 1) := by decide +kernel
theorem dL_law_583 : decode cL_law 583 = .ok (.iadd, 1) := by decide +kernel
theorem dL_law_584 : decode cL_law 584 = .ok (.iaload, 1) := by decide +kernel
theorem dL_law_585 : decode cL_law 585 = .ok (.invokevirtual 84, 3) := by decide +kernel
theorem dL_law_588 : decode cL_law 588 = .ok (.aload_n 2, 1) := by decide +kernel
theorem dL_law_589 : decode cL_law 589 = .ok (.aload_n 0, 1) := by decide +kernel
theorem dL_law_590 : decode cL_law 590 = .ok (.iload_n 3, 1) := by decide +kernel
theorem dL_law_591 : decode cL_law 591 = .ok (.iconst 1, 1) := by decide +kernel
theorem dL_law_592 : decode cL_law 592 = .ok (.iadd, 1) := by decide +kernel
theorem dL_law_593 : decode cL_law 593 = .ok (.iaload, 1) := by decide +kernel
theorem dL_law_594 : decode cL_law 594 = .ok (.invokevirtual 87, 3) := by decide +kernel
theorem dL_law_597 : decode cL_law 597 = .ok (.if_icmp .eq 272, 3) := by decide +kernel
theorem dL_law_600 : decode cL_law 600 = .ok (.iconst 0, 1) := by decide +kernel
theorem dL_law_601 : decode cL_law 601 = .ok (.ireturn, 1) := by decide +kernel
theorem dL_law_602 : decode cL_law 602 = .ok (.aload_n 1, 1) := by decide +kernel
theorem dL_law_603 : decode cL_law 603 = .ok (.aload_n 0, 1) := by decide +kernel
theorem dL_law_604 : decode cL_law 604 = .ok (.iload_n 3, 1) := by decide +kernel
theorem dL_law_605 : decode cL_law 605 = .ok (.iconst 1, 1) := by decide +kernel
theorem dL_law_606 : decode cL_law 606 = .ok (.iadd, 1) := by decide +kernel
theorem dL_law_607 : decode cL_law 607 = .ok (.iaload, 1) := by decide +kernel
theorem dL_law_608 : decode cL_law 608 = .ok (.invokevirtual 88, 3) := by decide +kernel
theorem dL_law_611 : decode cL_law 611 = .ok (.aload_n 2, 1) := by decide +kernel
theorem dL_law_612 : decode cL_law 612 = .ok (.aload_n 0, 1) := by decide +kernel
theorem dL_law_613 : decode cL_law 613 = .ok (.iload_n 3, 1) := by decide +kernel
theorem dL_law_614 : decode cL_law 614 = .ok (.iconst 1, 1) := by decide +kernel
theorem dL_law_615 : decode cL_law 615 = .ok (.iadd, 1) := by decide +kernel
theorem dL_law_616 : decode cL_law 616 = .ok (.iaload, 1) := by decide +kernel
theorem dL_law_617 : decode cL_law 617 = .ok (.invokevirtual 91, 3) := by decide +kernel
theorem dL_law_620 : decode cL_law 620 = .ok (.if_icmp .eq 249, 3) := by decide +kernel
theorem dL_law_623 : decode cL_law 623 = .ok (.iconst 0, 1) := by decide +kernel
theorem dL_law_624 : decode cL_law 624 = .ok (.ireturn, 1) := by decide +kernel
theorem dL_law_625 : decode cL_law 625 = .ok (.aload_n 1, 1) := by decide +kernel
theorem dL_law_626 : decode cL_law 626 = .ok (.aload_n 0, 1) := by decide +kernel
theorem dL_law_627 : decode cL_law 627 = .ok (.iload_n 3, 1) := by decide +kernel
theorem dL_law_628 : decode cL_law 628 = .ok (.iconst 1, 1) := by decide +kernel
theorem dL_law_629 : decode cL_law 629 = .ok (.iadd, 1) := by decide +kernel
theorem dL_law_630 : decode cL_law 630 = .ok (.iaload, 1) := by decide +kernel
theorem dL_law_631 : decode cL_law 631 = .ok (.invokevirtual 92, 3) := by decide +kernel
theorem dL_law_634 : decode cL_law 634 = .ok (.aload_n 2, 1) := by decide +kernel
theorem dL_law_635 : decode cL_law 635 = .ok (.aload_n 0, 1) := by decide +kernel
theorem dL_law_636 : decode cL_law 636 = .ok (.iload_n 3, 1) := by decide +kernel
theorem dL_law_637 : decode cL_law 637 = .ok (.iconst 1, 1) := by decide +kernel
theorem dL_law_638 : decode cL_law 638 = .ok (.iadd, 1) := by decide +kernel
theorem dL_law_639 : decode cL_law 639 = .ok (.iaload, 1) := by decide +kernel
theorem dL_law_640 : decode cL_law 640 = .ok (.invokevirtual 95, 3) := by decide +kernel
theorem dL_law_643 : decode cL_law 643 = .ok (.if_icmp .eq 226, 3) := by decide +kernel
theorem dL_law_646 : decode cL_law 646 = .ok (.iconst 0, 1) := by decide +kernel
theorem dL_law_647 : decode cL_law 647 = .ok (.ireturn, 1) := by decide +kernel
theorem dL_law_648 : decode cL_law 648 = .ok (.aload_n 1, 1) := by decide +kernel
theorem dL_law_649 : decode cL_law 649 = .ok (.aload_n 0, 1) := by decide +kernel
theorem dL_law_650 : decode cL_law 650 = .ok (.iload_n 3, 1) := by decide +kernel
theorem dL_law_651 : decode cL_law 651 = .ok (.iconst 1, 1) := by decide +kernel
theorem dL_law_652 : decode cL_law 652 = .ok (.iadd, 1) := by decide +kernel
theorem dL_law_653 : decode cL_law 653 = .ok (.iaload, 1) := by decide +kernel
theorem dL_law_654 : decode cL_law 654 = .ok (.invokevirtual 96, 3) := by decide +kernel
theorem dL_law_657 : decode cL_law 657 = .ok (.aload_n 2, 1) := by decide +kernel
theorem dL_law_658 : decode cL_law 658 = .ok (.aload_n 0, 1) := by decide +kernel
theorem dL_law_659 : decode cL_law 659 = .ok (.iload_n 3, 1) := by decide +kernel
theorem dL_law_660 : decode cL_law 660 = .ok (.iconst 1, 1) := by decide +kernel
theorem dL_law_661 : decode cL_law 661 = .ok (.iadd, 1) := by decide +kernel
theorem dL_law_662 : decode cL_law 662 = .ok (.iaload, 1) := by decide +kernel
theorem dL_law_663 : decode cL_law 663 = .ok (.invokevirtual 99, 3) := by decide +kernel
theorem dL_law_666 : decode cL_law 666 = .ok (.if_icmp .eq 203, 3) := by decide +kernel
theorem dL_law_669 : decode cL_law 669 = .ok (.iconst 0, 1) := by decide +kernel
theorem dL_law_670 : decode cL_law 670 = .ok (.ireturn, 1) := by decide +kernel
theorem dL_law_671 : decode cL_law 671 = .ok (.aload_n 1, 1) := by decide +kernel
theorem dL_law_672 : decode cL_law 672 = .ok (.aload_n 0, 1) := by decide +kernel
theorem dL_law_673 : decode cL_law 673 = .ok (.iload_n 3, 1) := by decide +kernel
theorem dL_law_674 : decode cL_law 674 = .ok (.iconst 1, 1) := by decide +kernel
theorem dL_law_675 : decode cL_law 675 = .ok (.iadd, 1) := by decide +kernel
theorem dL_law_676 : decode cL_law 676 = .ok (.iaload, 1) := by decide +kernel
theorem dL_law_677 : decode cL_law 677 = .ok (.invokevirtual 100, 3) := by decide +kernel
theorem dL_law_680 : decode cL_law 680 = .ok (.aload_n 2, 1) := by decide +kernel
theorem dL_law_681 : decode cL_law 681 = .ok (.aload_n 0, 1) := by decide +kernel
theorem dL_law_682 : decode cL_law 682 = .ok (.iload_n 3, 1) := by decide +kernel
theorem dL_law_683 : decode cL_law 683 = .ok (.iconst 1, 1) := by decide +kernel
theorem dL_law_684 : decode cL_law 684 = .ok (.iadd, 1) := by decide +kernel
theorem dL_law_685 : decode cL_law 685 = .ok (.iaload, 1) := by decide +kernel
theorem dL_law_686 : decode cL_law 686 = .ok (.invokevirtual 103, 3) := by decide +kernel
theorem dL_law_689 : decode cL_law 689 = .ok (.if_icmp .eq 180, 3) := by decide +kernel
theorem dL_law_692 : decode cL_law 692 = .ok (.iconst 0, 1) := by decide +kernel
theorem dL_law_693 : decode cL_law 693 = .ok (.ireturn, 1) := by decide +kernel
theorem dL_law_694 : decode cL_law 694 = .ok (.aload_n 1, 1) := by decide +kernel
theorem dL_law_695 : decode cL_law 695 = .ok (.aload_n 0, 1) := by decide +kernel
theorem dL_law_696 : decode cL_law 696 = .ok (.iload_n 3, 1) := by decide +kernel
theorem dL_law_697 : decode cL_law 697 = .ok (.iconst 1, 1) := by decide +kernel
theorem dL_law_698 : decode cL_law 698 = .ok (.iadd, 1) := by decide +kernel
theorem dL_law_699 : decode cL_law 699 = .ok (.iaload, 1) := by decide +kernel
theorem dL_law_700 : decode cL_law 700 = .ok (.invokevirtual 104, 3) := by decide +kernel
theorem dL_law_703 : decode cL_law 703 = .ok (.aload_n 2, 1) := by decide +kernel
theorem dL_law_704 : decode cL_law 704 = .ok (.aload_n 0, 1) := by decide +kernel
theorem dL_law_705 : decode cL_law 705 = .ok (.iload_n 3, 1) := by decide +kernel
theorem dL_law_706 : decode cL_law 706 = .ok (.iconst 1, 1) := by decide +kernel
theorem dL_law_707 : decode cL_law 707 = .ok (.iadd, 1) := by decide +kernel
theorem dL_law_708 : decode cL_law 708 = .ok (.iaload, 1) := by decide +kernel
theorem dL_law_709 : decode cL_law 709 = .ok (.invokevirtual 107, 3) := by decide +kernel
theorem dL_law_712 : decode cL_law 712 = .ok (.if_icmp .eq 157, 3) := by decide +kernel
theorem dL_law_715 : decode cL_law 715 = .ok (.iconst 0, 1) := by decide +kernel
theorem dL_law_716 : decode cL_law 716 = .ok (.ireturn, 1) := by decide +kernel
theorem dL_law_717 : decode cL_law 717 = .ok (.aload_n 1, 1) := by decide +kernel
theorem dL_law_718 : decode cL_law 718 = .ok (.aload_n 0, 1) := by decide +kernel
theorem dL_law_719 : decode cL_law 719 = .ok (.iload_n 3, 1) := by decide +kernel
theorem dL_law_720 : decode cL_law 720 = .ok (.iconst 1, 1) := by decide +kernel
theorem dL_law_721 : decode cL_law 721 = .ok (.iadd, 1) := by decide +kernel
theorem dL_law_722 : decode cL_law 722 = .ok (.iaload, 1) := by decide +kernel
theorem dL_law_723 : decode cL_law 723 = .ok (.invokevirtual 108, 3) := by decide +kernel
theorem dL_law_726 : decode cL_law 726 = .ok (.aload_n 2, 1) := by decide +kernel
theorem dL_law_727 : decode cL_law 727 = .ok (.aload_n 0, 1) := by decide +kernel
theorem dL_law_728 : decode cL_law 728 = .ok (.iload_n 3, 1) := by decide +kernel
theorem dL_law_729 : decode cL_law 729 = .ok (.iconst 1, 1) := by decide +kernel
theorem dL_law_730 : decode cL_law 730 = .ok (.iadd, 1) := by decide +kernel
theorem dL_law_731 : decode cL_law 731 = .ok (.iaload, 1) := by decide +kernel
theorem dL_law_732 : decode cL_law 732 = .ok (.invokevirtual 111, 3) := by decide +kernel
theorem dL_law_735 : decode cL_law 735 = .ok (.if_icmp .eq 134, 3) := by decide +kernel
theorem dL_law_738 : decode cL_law 738 = .ok (.iconst 0, 1) := by decide +kernel
theorem dL_law_739 : decode cL_law 739 = .ok (.ireturn, 1) := by decide +kernel
theorem dL_law_740 : decode cL_law 740 = .ok (.aload_n 1, 1) := by decide +kernel
theorem dL_law_741 : decode cL_law 741 = .ok (.aload_n 0, 1) := by decide +kernel
theorem dL_law_742 : decode cL_law 742 = .ok (.iload_n 3, 1) := by decide +kernel
theorem dL_law_743 : decode cL_law 743 = .ok (.iconst 1, 1) := by decide +kernel
theorem dL_law_744 : decode cL_law 744 = .ok (.iadd, 1) := by decide +kernel
theorem dL_law_745 : decode cL_law 745 = .ok (.iaload, 1) := by decide +kernel
theorem dL_law_746 : decode cL_law 746 = .ok (.aload_n 0, 1) := by decide +kernel
theorem dL_law_747 : decode cL_law 747 = .ok (.iload_n 3, 1) := by decide +kernel
theorem dL_law_748 : decode cL_law 748 = .ok (.iconst 2, 1) := by decide +kernel
theorem dL_law_749 : decode cL_law 749 = .ok (.iadd, 1) := by decide +kernel
theorem dL_law_750 : decode cL_law 750 = .ok (.iaload, 1) := by decide +kernel
theorem dL_law_751 : decode cL_law 751 = .ok (.invokevirtual 112, 3) := by decide +kernel
theorem dL_law_754 : decode cL_law 754 = .ok (.aload_n 2, 1) := by decide +kernel
theorem dL_law_755 : decode cL_law 755 = .ok (.aload_n 0, 1) := by decide +kernel
theorem dL_law_756 : decode cL_law 756 = .ok (.iload_n 3, 1) := by decide +kernel
theorem dL_law_757 : decode cL_law 757 = .ok (.iconst 1, 1) := by decide +kernel
theorem dL_law_758 : decode cL_law 758 = .ok (.iadd, 1) := by decide +kernel
theorem dL_law_759 : decode cL_law 759 = .ok (.iaload, 1) := by decide +kernel
theorem dL_law_760 : decode cL_law 760 = .ok (.aload_n 0, 1) := by decide +kernel
theorem dL_law_761 : decode cL_law 761 = .ok (.iload_n 3, 1) := by decide +kernel
theorem dL_law_762 : decode cL_law 762 = .ok (.iconst 2, 1) := by decide +kernel
theorem dL_law_763 : decode cL_law 763 = .ok (.iadd, 1) := by decide +kernel
theorem dL_law_764 : decode cL_law 764 = .ok (.iaload, 1) := by decide +kernel
theorem dL_law_765 : decode cL_law 765 = .ok (.invokevirtual 115, 3) := by decide +kernel
theorem dL_law_768 : decode cL_law 768 = .ok (.if_icmp .eq 101, 3) := by decide +kernel
theorem dL_law_771 : decode cL_law 771 = .ok (.iconst 0, 1) := by decide +kernel
theorem dL_law_772 : decode cL_law 772 = .ok (.ireturn, 1) := by decide +kernel
theorem dL_law_773 : decode cL_law 773 = .ok (.aload_n 1, 1) := by decide +kernel
theorem dL_law_774 : decode cL_law 774 = .ok (.aload_n 0, 1) := by decide +kernel
theorem dL_law_775 : decode cL_law 775 = .ok (.iload_n 3, 1) := by decide +kernel
theorem dL_law_776 : decode cL_law 776 = .ok (.iconst 1, 1) := by decide +kernel
theorem dL_law_777 : decode cL_law 777 = .ok (.iadd, 1) := by decide +kernel
theorem dL_law_778 : decode cL_law 778 = .ok (.iaload, 1) := by decide +kernel
theorem dL_law_779 : decode cL_law 779 = .ok (.invokevirtual 116, 3) := by decide +kernel
theorem dL_law_782 : decode cL_law 782 = .ok (.aload_n 2, 1) := by decide +kernel
theorem dL_law_783 : decode cL_law 783 = .ok (.aload_n 0, 1) := by decide +kernel
theorem dL_law_784 : decode cL_law 784 = .ok (.iload_n 3, 1) := by decide +kernel
theorem dL_law_785 : decode cL_law 785 = .ok (.iconst 1, 1) := by decide +kernel
theorem dL_law_786 : decode cL_law 786 = .ok (.iadd, 1) := by decide +kernel
theorem dL_law_787 : decode cL_law 787 = .ok (.iaload, 1) := by decide +kernel
theorem dL_law_788 : decode cL_law 788 = .ok (.invokevirtual 119, 3) := by decide +kernel
theorem dL_law_791 : decode cL_law 791 = .ok (.if_icmp .eq 78, 3) := by decide +kernel
theorem dL_law_794 : decode cL_law 794 = .ok (.iconst 0, 1) := by decide +kernel
theorem dL_law_795 : decode cL_law 795 = .ok (.ireturn, 1) := by decide +kernel
theorem dL_law_796 : decode cL_law 796 = .ok (.aload_n 1, 1) := by decide +kernel
theorem dL_law_797 : decode cL_law 797 = .ok (.aload_n 0, 1) := by decide +kernel
theorem dL_law_798 : decode cL_law 798 = .ok (.iload_n 3, 1) := by decide +kernel
theorem dL_law_799 : decode cL_law 799 = .ok (.iconst 1, 1) := by decide +kernel
theorem dL_law_800 : decode cL_law 800 = .ok (.iadd, 1) := by decide +kernel
theorem dL_law_801 : decode cL_law 801 = .ok (.iaload, 1) := by decide +kernel
theorem dL_law_802 : decode cL_law 802 = .ok (.invokevirtual 120, 3) := by decide +kernel
theorem dL_law_805 : decode cL_law 805 = .ok (.aload_n 2, 1) := by decide +kernel
theorem dL_law_806 : decode cL_law 806 = .ok (.aload_n 0, 1) := by decide +kernel
theorem dL_law_807 : decode cL_law 807 = .ok (.iload_n 3, 1) := by decide +kernel
theorem dL_law_808 : decode cL_law 808 = .ok (.iconst 1, 1) := by decide +kernel
theorem dL_law_809 : decode cL_law 809 = .ok (.iadd, 1) := by decide +kernel
theorem dL_law_810 : decode cL_law 810 = .ok (.iaload, 1) := by decide +kernel
theorem dL_law_811 : decode cL_law 811 = .ok (.invokevirtual 123, 3) := by decide +kernel
theorem dL_law_814 : decode cL_law 814 = .ok (.if_icmp .eq 55, 3) := by decide +kernel
theorem dL_law_817 : decode cL_law 817 = .ok (.iconst 0, 1) := by decide +kernel
theorem dL_law_818 : decode cL_law 818 = .ok (.ireturn, 1) := by decide +kernel
theorem dL_law_819 : decode cL_law 819 = .ok (.aload_n 1, 1) := by decide +kernel
theorem dL_law_820 : decode cL_law 820 = .ok (.invokevirtual 124, 3) := by decide +kernel
theorem dL_law_823 : decode cL_law 823 = .ok (.aload_n 2, 1) := by decide +kernel
theorem dL_law_824 : decode cL_law 824 = .ok (.invokevirtual 127, 3) := by decide +kernel
theorem dL_law_827 : decode cL_law 827 = .ok (.if_icmp .eq 42, 3) := by decide +kernel
theorem dL_law_830 : decode cL_law 830 = .ok (.iconst 0, 1) := by decide +kernel
theorem dL_law_831 : decode cL_law 831 = .ok (.ireturn, 1) := by decide +kernel
theorem dL_law_832 : decode cL_law 832 = .ok (.aload_n 1, 1) := by decide +kernel
theorem dL_law_833 : decode cL_law 833 = .ok (.aload_n 0, 1) := by decide +kernel
theorem dL_law_834 : decode cL_law 834 = .ok (.iload_n 3, 1) := by decide +kernel
theorem dL_law_835 : decode cL_law 835 = .ok (.iconst 1, 1) := by decide +kernel
theorem dL_law_836 : decode cL_law 836 = .ok (.iadd, 1) := by decide +kernel
theorem dL_law_837 : decode cL_law 837 = .ok (.iaload, 1) := by decide +kernel
theorem dL_law_838 : decode cL_law 838 = .ok (.invokevirtual 128, 3) := by decide +kernel
theorem dL_law_841 : decode cL_law 841 = .ok (.aload_n 2, 1) := by decide +kernel
theorem dL_law_842 : decode cL_law 842 = .ok (.aload_n 0, 1) := by decide +kernel
theorem dL_law_843 : decode cL_law 843 = .ok (.iload_n 3, 1) := by decide +kernel
theorem dL_law_844 : decode cL_law 844 = .ok (.iconst 1, 1) := by decide +kernel
theorem dL_law_845 : decode cL_law 845 = .ok (.iadd, 1) := by decide +kernel
theorem dL_law_846 : decode cL_law 846 = .ok (.iaload, 1) := by decide +kernel
theorem dL_law_847 : decode cL_law 847 = .ok (.invokevirtual 131, 3) := by decide +kernel
theorem dL_law_850 : decode cL_law 850 = .ok (.if_icmp .eq 19, 3) := by decide +kernel
theorem dL_law_853 : decode cL_law 853 = .ok (.iconst 0, 1) := by decide +kernel
theorem dL_law_854 : decode cL_law 854 = .ok (.ireturn, 1) := by decide +kernel
theorem dL_law_855 : decode cL_law 855 = .ok (.aload_n 1, 1) := by decide +kernel
theorem dL_law_856 : decode cL_law 856 = .ok (.invokevirtual 132, 3) := by decide +kernel
theorem dL_law_859 : decode cL_law 859 = .ok (.aload_n 2, 1) := by decide +kernel
theorem dL_law_860 : decode cL_law 860 = .ok (.invokevirtual 136, 3) := by decide +kernel
theorem dL_law_863 : decode cL_law 863 = .ok (.lcmp, 1) := by decide +kernel
theorem dL_law_864 : decode cL_law 864 = .ok (.ifCond .eq 5, 3) := by decide +kernel
theorem dL_law_867 : decode cL_law 867 = .ok (.iconst 0, 1) := by decide +kernel
theorem dL_law_868 : decode cL_law 868 = .ok (.ireturn, 1) := by decide +kernel
theorem dL_law_869 : decode cL_law 869 = .ok (.iinc 3 3, 3) := by decide +kernel
theorem dL_law_872 : decode cL_law 872 = .ok (.goto (-854), 3) := by decide +kernel
theorem dL_law_875 : decode cL_law 875 = .ok (.iconst 1, 1) := by decide +kernel
theorem dL_law_876 : decode cL_law 876 = .ok (.ireturn, 1) := by decide +kernel

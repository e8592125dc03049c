theorem d_R_growBelow_13 : decode b_R_growBelow 13 = .ok (.if_icmp .ne 15, 3) := by decide +kernel
theorem d_R_growBelow_16 : decode b_R_growBelow 16 = .ok (.aload_n 0, 1) := by decide +kernel
theorem d_R_growBelow_17 : decode b_R_growBelow 17 = .ok (.aload_n 1, 1) := by decide +kernel
theorem d_R_growBelow_18 : decode b_R_growBelow 18 = .ok (.iload_n 3, 1) := by decide +kernel
theorem d_R_growBelow_19 : decode b_R_growBelow 19 = .ok (.invokevirtual 54, 3) := by decide +kernel
theorem d_R_growBelow_22 : decode b_R_growBelow 22 = .ok (.iload 4, 2) := by decide +kernel
theorem d_R_growBelow_24 : decode b_R_growBelow 24 = .ok (.invokevirtual 58, 3) := by decide +kernel
theorem d_R_growBelow_27 : decode b_R_growBelow 27 = .ok (.ireturn, 1) := by decide +kernel
theorem d_R_growBelow_28 : decode b_R_growBelow 28 = .ok (.aload_n 0, 1) := by decide +kernel
theorem d_R_growBelow_29 : decode b_R_growBelow 29 = .ok (.iload 5, 2) := by decide +kernel
theorem d_R_growBelow_31 : decode b_R_growBelow 31 = .ok (.iload 4, 2) := by decide +kernel
theorem d_R_growBelow_33 : decode b_R_growBelow 33 = .ok (.invokevirtual 62, 3) := by decide +kernel
theorem d_R_growBelow_36 : decode b_R_growBelow 36 = .ok (.istore 6, 2) := by decide +kernel
theorem d_R_growBelow_38 : decode b_R_growBelow 38 = .ok (.aload_n 0, 1) := by decide +kernel
theorem d_R_growBelow_39 : decode b_R_growBelow 39 = .ok (.getfield 19, 3) := by decide +kernel
theorem d_R_growBelow_42 : decode b_R_growBelow 42 = .ok (.iload 6, 2) := by decide +kernel
theorem d_R_growBelow_44 : decode b_R_growBelow 44 = .ok (.aload_n 0, 1) := by decide +kernel
theorem d_R_growBelow_45 : decode b_R_growBelow 45 = .ok (.aload_n 1, 1) := by decide +kernel
theorem d_R_growBelow_46 : decode b_R_growBelow 46 = .ok (.iload_n 2, 1) := by decide +kernel
theorem d_R_growBelow_47 : decode b_R_growBelow 47 = .ok (.iload_n 3, 1) := by decide +kernel
theorem d_R_growBelow_48 : decode b_R_growBelow 48 = .ok (.iload 5, 2) := by decide +kernel
theorem d_R_growBelow_50 : decode b_R_growBelow 50 = .ok (.iconst 0, 1) := by decide +kernel
theorem d_R_growBelow_51 : decode b_R_growBelow 51 = .ok (.invokestatic 65, 3) := by decide +kernel
theorem d_R_growBelow_54 : decode b_R_growBelow 54 = .ok (.iload 4, 2) := by decide +kernel
theorem d_R_growBelow_56 : decode b_R_growBelow 56 = .ok (.iconst 1, 1) := by decide +kernel
theorem d_R_growBelow_57 : decode b_R_growBelow 57 = .ok (.iadd, 1) := by decide +kernel
theorem d_R_growBelow_58 : decode b_R_growBelow 58 = .ok (.invokestatic 46, 3) := by decide +kernel
theorem d_R_growBelow_61 : decode b_R_growBelow 61 = .ok (.iastore, 1) := by decide +kernel
theorem d_R_growBelow_62 : decode b_R_growBelow 62 = .ok (.aload_n 0, 1) := by decide +kernel
theorem d_R_growBelow_63 : decode b_R_growBelow 63 = .ok (.getfield 22, 3) := by decide +kernel
theorem d_R_growBelow_66 : decode b_R_growBelow 66 = .ok (.iload 6, 2) := by decide +kernel
theorem d_R_growBelow_68 : decode b_R_growBelow 68 = .ok (.aload_n 0, 1) := by decide +kernel
theorem d_R_growBelow_69 : decode b_R_growBelow 69 = .ok (.aload_n 1, 1) := by decide +kernel
theorem d_R_growBelow_70 : decode b_R_growBelow 70 = .ok (.iload_n 2, 1) := by decide +kernel
theorem d_R_growBelow_71 : decode b_R_growBelow 71 = .ok (.iload_n 3, 1) := by decide +kernel
theorem d_R_growBelow_72 : decode b_R_growBelow 72 = .ok (.iload 5, 2) := by decide +kernel
theorem d_R_growBelow_74 : decode b_R_growBelow 74 = .ok (.iconst 1, 1) := by decide +kernel
theorem d_R_growBelow_75 : decode b_R_growBelow 75 = .ok (.invokestatic 65, 3) := by decide +kernel
theorem d_R_growBelow_78 : decode b_R_growBelow 78 = .ok (.iload 4, 2) := by decide +kernel
theorem d_R_growBelow_80 : decode b_R_growBelow 80 = .ok (.iconst 1, 1) := by decide +kernel
theorem d_R_growBelow_81 : decode b_R_growBelow 81 = .ok (.iadd, 1) := by decide +kernel
theorem d_R_growBelow_82 : decode b_R_growBelow 82 = .ok (.invokestatic 46, 3) := by decide +kernel
theorem d_R_growBelow_85 : decode b_R_growBelow 85 = .ok (.iastore, 1) := by decide +kernel
theorem d_R_growBelow_86 : decode b_R_growBelow 86 = .ok (.iload 6, 2) := by decide +kernel
theorem d_R_growBelow_88 : decode b_R_growBelow 88 = .ok (.ireturn, 1) := by decide +kernel
theorem d_R_addLeaf_0 : decode b_R_addLeaf 0 = .ok (.aload_n 0, 1) := by decide +kernel
theorem d_R_addLeaf_1 : decode b_R_addLeaf 1 = .ok (.iconst (-1), 1) := by decide +kernel
theorem d_R_addLeaf_2 : decode b_R_addLeaf 2 = .ok (.iload_n 2, 1) := by decide +kernel
theorem d_R_addLeaf_3 : decode b_R_addLeaf 3 = .ok (.invokevirtual 62, 3) := by decide +kernel
theorem d_R_addLeaf_6 : decode b_R_addLeaf 6 = .ok (.istore_n 3, 1) := by decide +kernel
theorem d_R_addLeaf_7 : decode b_R_addLeaf 7 = .ok (.aload_n 0, 1) := by decide +kernel
theorem d_R_addLeaf_8 : decode b_R_addLeaf 8 = .ok (.getfield 19, 3) := by decide +kernel
theorem d_R_addLeaf_11 : decode b_R_addLeaf 11 = .ok (.iload_n 3, 1) := by decide +kernel
theorem d_R_addLeaf_12 : decode b_R_addLeaf 12 = .ok (.iconst (-1), 1) := by decide +kernel
theorem d_R_addLeaf_13 : decode b_R_addLeaf 13 = .ok (.iastore, 1) := by decide +kernel
theorem d_R_addLeaf_14 : decode b_R_addLeaf 14 = .ok (.aload_n 0, 1) := by decide +kernel
theorem d_R_addLeaf_15 : decode b_R_addLeaf 15 = .ok (.getfield 22, 3) := by decide +kernel
theorem d_R_addLeaf_18 : decode b_R_addLeaf 18 = .ok (.iload_n 3, 1) := by decide +kernel
theorem d_R_addLeaf_19 : decode b_R_addLeaf 19 = .ok (.iconst (-1), 1) := by decide +kernel
theorem d_R_addLeaf_20 : decode b_R_addLeaf 20 = .ok (.iastore, 1) := by decide +kernel
theorem d_R_addLeaf_21 : decode b_R_addLeaf 21 = .ok (.aload_n 0, 1) := by decide +kernel
theorem d_R_addLeaf_22 : decode b_R_addLeaf 22 = .ok (.getfield 28, 3) := by decide +kernel
theorem d_R_addLeaf_25 : decode b_R_addLeaf 25 = .ok (.iload_n 3, 1) := by decide +kernel
theorem d_R_addLeaf_26 : decode b_R_addLeaf 26 = .ok (.iload_n 1, 1) := by decide +kernel
theorem d_R_addLeaf_27 : decode b_R_addLeaf 27 = .ok (.iastore, 1) := by decide +kernel
theorem d_R_addLeaf_28 : decode b_R_addLeaf 28 = .ok (.aload_n 0, 1) := by decide +kernel
theorem d_R_addLeaf_29 : decode b_R_addLeaf 29 = .ok (.dup, 1) := by decide +kernel
theorem d_R_addLeaf_30 : decode b_R_addLeaf 30 = .ok (.getfield 34, 3) := by decide +kernel
theorem d_R_addLeaf_33 : decode b_R_addLeaf 33 = .ok (.iconst 1, 1) := by decide +kernel
theorem d_R_addLeaf_34 : decode b_R_addLeaf 34 = .ok (.iadd, 1) := by decide +kernel
theorem d_R_addLeaf_35 : decode b_R_addLeaf 35 = .ok (.putfield 34, 3) := by decide +kernel
theorem d_R_addLeaf_38 : decode b_R_addLeaf 38 = .ok (.iload_n 3, 1) := by decide +kernel
theorem d_R_addLeaf_39 : decode b_R_addLeaf 39 = .ok (.ireturn, 1) := by decide +kernel
theorem d_R_addNode_0 : decode b_R_addNode 0 = .ok (.aload_n 0, 1) := by decide +kernel
theorem d_R_addNode_1 : decode b_R_addNode 1 = .ok (.getfield 31, 3) := by decide +kernel
theorem d_R_addNode_4 : decode b_R_addNode 4 = .ok (.istore_n 3, 1) := by decide +kernel
theorem d_R_addNode_5 : decode b_R_addNode 5 = .ok (.aload_n 0, 1) := by decide +kernel
theorem d_R_addNode_6 : decode b_R_addNode 6 = .ok (.getfield 15, 3) := by decide +kernel
theorem d_R_addNode_9 : decode b_R_addNode 9 = .ok (.iload_n 3, 1) := by decide +kernel
theorem d_R_addNode_10 : decode b_R_addNode 10 = .ok (.iload_n 1, 1) := by decide +kernel
theorem d_R_addNode_11 : decode b_R_addNode 11 = .ok (.iastore, 1) := by decide +kernel
theorem d_R_addNode_12 : decode b_R_addNode 12 = .ok (.aload_n 0, 1) := by decide +kernel
theorem d_R_addNode_13 : decode b_R_addNode 13 = .ok (.getfield 25, 3) := by decide +kernel
theorem d_R_addNode_16 : decode b_R_addNode 16 = .ok (.iload_n 3, 1) := by decide +kernel
theorem d_R_addNode_17 : decode b_R_addNode 17 = .ok (.iload_n 2, 1) := by decide +kernel
theorem d_R_addNode_18 : decode b_R_addNode 18 = .ok (.iastore, 1) := by decide +kernel
theorem d_R_addNode_19 : decode b_R_addNode 19 = .ok (.aload_n 0, 1) := by decide +kernel
theorem d_R_addNode_20 : decode b_R_addNode 20 = .ok (.getfield 28, 3) := by decide +kernel
theorem d_R_addNode_23 : decode b_R_addNode 23 = .ok (.iload_n 3, 1) := by decide +kernel
theorem d_R_addNode_24 : decode b_R_addNode 24 = .ok (.iconst 0, 1) := by decide +kernel
theorem d_R_addNode_25 : decode b_R_addNode 25 = .ok (.iastore, 1) := by decide +kernel
theorem d_R_addNode_26 : decode b_R_addNode 26 = .ok (.aload_n 0, 1) := by decide +kernel
theorem d_R_addNode_27 : decode b_R_addNode 27 = .ok (.dup, 1) := by decide +kernel
theorem d_R_addNode_28 : decode b_R_addNode 28 = .ok (.getfield 31, 3) := by decide +kernel
theorem d_R_addNode_31 : decode b_R_addNode 31 = .ok (.iconst 1, 1) := by decide +kernel
theorem d_R_addNode_32 : decode b_R_addNode 32 = .ok (.iadd, 1) := by decide +kernel
theorem d_R_addNode_33 : decode b_R_addNode 33 = .ok (.putfield 31, 3) := by decide +kernel
theorem d_R_addNode_36 : decode b_R_addNode 36 = .ok (.iload_n 3, 1) := by decide +kernel
theorem d_R_addNode_37 : decode b_R_addNode 37 = .ok (.ireturn, 1) := by decide +kernel
theorem d_R_size_0 : decode b_R_size 0 = .ok (.aload_n 0, 1) := by decide +kernel
theorem d_R_size_1 : decode b_R_size 1 = .ok (.getfield 31, 3) := by decide +kernel
theorem d_R_size_4 : decode b_R_size 4 = .ok (.ireturn, 1) := by decide +kernel
theorem d_R_leaves_0 : decode b_R_leaves 0 = .ok (.aload_n 0, 1) := by decide +kernel
theorem d_R_leaves_1 : decode b_R_leaves 1 = .ok (.getfield 34, 3) := by decide +kernel
theorem d_R_leaves_4 : decode b_R_leaves 4 = .ok (.ireturn, 1) := by decide +kernel
theorem d_R_has_0 : decode b_R_has 0 = .ok (.iload_n 1, 1) := by decide +kernel
theorem d_R_has_1 : decode b_R_has 1 = .ok (.ifCond .lt 15, 3) := by decide +kernel
theorem d_R_has_4 : decode b_R_has 4 = .ok (.iload_n 1, 1) := by decide +kernel
theorem d_R_has_5 : decode b_R_has 5 = .ok (.aload_n 0, 1) := by decide +kernel
theorem d_R_has_6 : decode b_R_has 6 = .ok (.getfield 31, 3) := by decide +kernel
theorem d_R_has_9 : decode b_R_has 9 = .ok (.if_icmp .ge 7, 3) := by decide +kernel
theorem d_R_has_12 : decode b_R_has 12 = .ok (.iconst 1, 1) := by decide +kernel
theorem d_R_has_13 : decode b_R_has 13 = .ok (.goto 4, 3) := by decide +kernel
theorem d_R_has_16 : decode b_R_has 16 = .ok (.iconst 0, 1) := by decide +kernel
theorem d_R_has_17 : decode b_R_has 17 = .ok (.ireturn, 1) := by decide +kernel
theorem d_R_bitOf_0 : decode b_R_bitOf 0 = .ok (.aload_n 0, 1) := by decide +kernel
theorem d_R_bitOf_1 : decode b_R_bitOf 1 = .ok (.getfield 15, 3) := by decide +kernel
theorem d_R_bitOf_4 : decode b_R_bitOf 4 = .ok (.iload_n 1, 1) := by decide +kernel
theorem d_R_bitOf_5 : decode b_R_bitOf 5 = .ok (.iaload, 1) := by decide +kernel
theorem d_R_bitOf_6 : decode b_R_bitOf 6 = .ok (.ireturn, 1) := by decide +kernel
theorem d_R_sideOf_0 : decode b_R_sideOf 0 = .ok (.iload_n 2, 1) := by decide +kernel
theorem d_R_sideOf_1 : decode b_R_sideOf 1 = .ok (.ifCond .ne 12, 3) := by decide +kernel
theorem d_R_sideOf_4 : decode b_R_sideOf 4 = .ok (.aload_n 0, 1) := by decide +kernel
theorem d_R_sideOf_5 : decode b_R_sideOf 5 = .ok (.getfield 19, 3) := by decide +kernel
theorem d_R_sideOf_8 : decode b_R_sideOf 8 = .ok (.iload_n 1, 1) := by decide +kernel
theorem d_R_sideOf_9 : decode b_R_sideOf 9 = .ok (.iaload, 1) := by decide +kernel
theorem d_R_sideOf_10 : decode b_R_sideOf 10 = .ok (.goto 9, 3) := by decide +kernel
theorem d_R_sideOf_13 : decode b_R_sideOf 13 = .ok (.aload_n 0, 1) := by decide +kernel
theorem d_R_sideOf_14 : decode b_R_sideOf 14 = .ok (.getfield 22, 3) := by decide +kernel
theorem d_R_sideOf_17 : decode b_R_sideOf 17 = .ok (.iload_n 1, 1) := by decide +kernel
theorem d_R_sideOf_18 : decode b_R_sideOf 18 = .ok (.iaload, 1) := by decide +kernel
theorem d_R_sideOf_19 : decode b_R_sideOf 19 = .ok (.ireturn, 1) := by decide +kernel
theorem d_R_depthOf_0 : decode b_R_depthOf 0 = .ok (.aload_n 0, 1) := by decide +kernel
theorem d_R_depthOf_1 : decode b_R_depthOf 1 = .ok (.getfield 25, 3) := by decide +kernel
theorem d_R_depthOf_4 : decode b_R_depthOf 4 = .ok (.iload_n 1, 1) := by decide +kernel
theorem d_R_depthOf_5 : decode b_R_depthOf 5 = .ok (.iaload, 1) := by decide +kernel
theorem d_R_depthOf_6 : decode b_R_depthOf 6 = .ok (.ireturn, 1) := by decide +kernel
theorem d_R_wordsOf_0 : decode b_R_wordsOf 0 = .ok (.iconst 1, 1) := by decide +kernel
theorem d_R_wordsOf_1 : decode b_R_wordsOf 1 = .ok (.aload_n 0, 1) := by decide +kernel
theorem d_R_wordsOf_2 : decode b_R_wordsOf 2 = .ok (.getfield 9, 3) := by decide +kernel
theorem d_R_wordsOf_5 : decode b_R_wordsOf 5 = .ok (.aload_n 0, 1) := by decide +kernel
theorem d_R_wordsOf_6 : decode b_R_wordsOf 6 = .ok (.getfield 25, 3) := by decide +kernel
theorem d_R_wordsOf_9 : decode b_R_wordsOf 9 = .ok (.iload_n 1, 1) := by decide +kernel
theorem d_R_wordsOf_10 : decode b_R_wordsOf 10 = .ok (.iaload, 1) := by decide +kernel
theorem d_R_wordsOf_11 : decode b_R_wordsOf 11 = .ok (.isub, 1) := by decide +kernel
theorem d_R_wordsOf_12 : decode b_R_wordsOf 12 = .ok (.ishl, 1) := by decide +kernel
theorem d_R_wordsOf_13 : decode b_R_wordsOf 13 = .ok (.ireturn, 1) := by decide +kernel
theorem d_R_listOf_0 : decode b_R_listOf 0 = .ok (.aload_n 0, 1) := by decide +kernel
theorem d_R_listOf_1 : decode b_R_listOf 1 = .ok (.getfield 28, 3) := by decide +kernel
theorem d_R_listOf_4 : decode b_R_listOf 4 = .ok (.iload_n 1, 1) := by decide +kernel
theorem d_R_listOf_5 : decode b_R_listOf 5 = .ok (.iaload, 1) := by decide +kernel
theorem d_R_listOf_6 : decode b_R_listOf 6 = .ok (.ireturn, 1) := by decide +kernel
theorem d_R_leafFor_0 : decode b_R_leafFor 0 = .ok (.iconst 0, 1) := by decide +kernel
theorem d_R_leafFor_1 : decode b_R_leafFor 1 = .ok (.istore_n 2, 1) := by decide +kernel
theorem d_R_leafFor_2 : decode b_R_leafFor 2 = .ok (.iconst 0, 1) := by decide +kernel
theorem d_R_leafFor_3 : decode b_R_leafFor 3 = .ok (.istore_n 3, 1) := by decide +kernel
theorem d_R_leafFor_4 : decode b_R_leafFor 4 = .ok (.iload_n 3, 1) := by decide +kernel
theorem d_R_leafFor_5 : decode b_R_leafFor 5 = .ok (.aload_n 0, 1) := by decide +kernel
theorem d_R_leafFor_6 : decode b_R_leafFor 6 = .ok (.getfield 9, 3) := by decide +kernel
theorem d_R_leafFor_9 : decode b_R_leafFor 9 = .ok (.if_icmp .ge 35, 3) := by decide +kernel
theorem d_R_leafFor_12 : decode b_R_leafFor 12 = .ok (.aload_n 0, 1) := by decide +kernel
theorem d_R_leafFor_13 : decode b_R_leafFor 13 = .ok (.getfield 15, 3) := by decide +kernel
theorem d_R_leafFor_16 : decode b_R_leafFor 16 = .ok (.iload_n 2, 1) := by decide +kernel
theorem d_R_leafFor_17 : decode b_R_leafFor 17 = .ok (.iaload, 1) := by decide +kernel
theorem d_R_leafFor_18 : decode b_R_leafFor 18 = .ok (.iconst (-1), 1) := by decide +kernel
theorem d_R_leafFor_19 : decode b_R_leafFor 19 = .ok (.if_icmp .eq 25, 3) := by decide +kernel
theorem d_R_leafFor_22 : decode b_R_leafFor 22 = .ok (.aload_n 0, 1) := by decide +kernel
theorem d_R_leafFor_23 : decode b_R_leafFor 23 = .ok (.iload_n 2, 1) := by decide +kernel
theorem d_R_leafFor_24 : decode b_R_leafFor 24 = .ok (.iload_n 1, 1) := by decide +kernel
theorem d_R_leafFor_25 : decode b_R_leafFor 25 = .ok (.aload_n 0, 1) := by decide +kernel
theorem d_R_leafFor_26 : decode b_R_leafFor 26 = .ok (.getfield 15, 3) := by decide +kernel
theorem d_R_leafFor_29 : decode b_R_leafFor 29 = .ok (.iload_n 2, 1) := by decide +kernel
theorem d_R_leafFor_30 : decode b_R_leafFor 30 = .ok (.iaload, 1) := by decide +kernel
theorem d_R_leafFor_31 : decode b_R_leafFor 31 = .ok (.ishr, 1) := by decide +kernel
theorem d_R_leafFor_32 : decode b_R_leafFor 32 = .ok (.iconst 1, 1) := by decide +kernel
theorem d_R_leafFor_33 : decode b_R_leafFor 33 = .ok (.iand, 1) := by decide +kernel
theorem d_R_leafFor_34 : decode b_R_leafFor 34 = .ok (.invokevirtual 68, 3) := by decide +kernel
theorem d_R_leafFor_37 : decode b_R_leafFor 37 = .ok (.istore_n 2, 1) := by decide +kernel
theorem d_R_leafFor_38 : decode b_R_leafFor 38 = .ok (.iinc 3 1, 3) := by decide +kernel
theorem d_R_leafFor_41 : decode b_R_leafFor 41 = .ok (.goto (-37), 3) := by decide +kernel
theorem d_R_leafFor_44 : decode b_R_leafFor 44 = .ok (.iload_n 2, 1) := by decide +kernel
theorem d_R_leafFor_45 : decode b_R_leafFor 45 = .ok (.ireturn, 1) := by decide +kernel
theorem d_W_init_0 : decode b_W_init 0 = .ok (.aload_n 0, 1) := by decide +kernel
theorem d_W_init_1 : decode b_W_init 1 = .ok (.invokespecial 3, 3) := by decide +kernel
theorem d_W_init_4 : decode b_W_init 4 = .ok (.aload_n 0, 1) := by decide +kernel
theorem d_W_init_5 : decode b_W_init 5 = .ok (.bipush 64, 2) := by decide +kernel
theorem d_W_init_7 : decode b_W_init 7 = .ok (.newarray .int, 2) := by decide +kernel
theorem d_W_init_9 : decode b_W_init 9 = .ok (.putfield 9, 3) := by decide +kernel
theorem d_W_init_12 : decode b_W_init 12 = .ok (.return_, 1) := by decide +kernel
theorem d_W_size_0 : decode b_W_size 0 = .ok (.aload_n 0, 1) := by decide +kernel
theorem d_W_size_1 : decode b_W_size 1 = .ok (.getfield 15, 3) := by decide +kernel
theorem d_W_size_4 : decode b_W_size 4 = .ok (.ireturn, 1) := by decide +kernel
theorem d_W_first_0 : decode b_W_first 0 = .ok (.aload_n 0, 1) := by decide +kernel
theorem d_W_first_1 : decode b_W_first 1 = .ok (.getfield 9, 3) := by decide +kernel
theorem d_W_first_4 : decode b_W_first 4 = .ok (.aload_n 0, 1) := by decide +kernel
theorem d_W_first_5 : decode b_W_first 5 = .ok (.getfield 19, 3) := by decide +kernel
theorem d_W_first_8 : decode b_W_first 8 = .ok (.iaload, 1) := by decide +kernel
theorem d_W_first_9 : decode b_W_first 9 = .ok (.ireturn, 1) := by decide +kernel
theorem d_W_append_0 : decode b_W_append 0 = .ok (.aload_n 0, 1) := by decide +kernel
theorem d_W_append_1 : decode b_W_append 1 = .ok (.getfield 9, 3) := by decide +kernel
theorem d_W_append_4 : decode b_W_append 4 = .ok (.aload_n 0, 1) := by decide +kernel
theorem d_W_append_5 : decode b_W_append 5 = .ok (.getfield 19, 3) := by decide +kernel
theorem d_W_append_8 : decode b_W_append 8 = .ok (.aload_n 0, 1) := by decide +kernel
theorem d_W_append_9 : decode b_W_append 9 = .ok (.getfield 15, 3) := by decide +kernel
theorem d_W_append_12 : decode b_W_append 12 = .ok (.iadd, 1) := by decide +kernel
theorem d_W_append_13 : decode b_W_append 13 = .ok (.bipush 64, 2) := by decide +kernel
theorem d_W_append_15 : decode b_W_append 15 = .ok (.irem, 1) := by decide +kernel
theorem d_W_append_16 : decode b_W_append 16 = .ok (.iload_n 1, 1) := by decide +kernel
theorem d_W_append_17 : decode b_W_append 17 = .ok (.iastore, 1) := by decide +kernel
theorem d_W_append_18 : decode b_W_append 18 = .ok (.aload_n 0, 1) := by decide +kernel
theorem d_W_append_19 : decode b_W_append 19 = .ok (.dup, 1) := by decide +kernel
theorem d_W_append_20 : decode b_W_append 20 = .ok (.getfield 15, 3) := by decide +kernel
theorem d_W_append_23 : decode b_W_append 23 = .ok (.iconst 1, 1) := by decide +kernel
theorem d_W_append_24 : decode b_W_append 24 = .ok (.iadd, 1) := by decide +kernel
theorem d_W_append_25 : decode b_W_append 25 = .ok (.putfield 15, 3) := by decide +kernel
theorem d_W_append_28 : decode b_W_append 28 = .ok (.return_, 1) := by decide +kernel
theorem d_W_drop_0 : decode b_W_drop 0 = .ok (.aload_n 0, 1) := by decide +kernel
theorem d_W_drop_1 : decode b_W_drop 1 = .ok (.aload_n 0, 1) := by decide +kernel
theorem d_W_drop_2 : decode b_W_drop 2 = .ok (.getfield 19, 3) := by decide +kernel
theorem d_W_drop_5 : decode b_W_drop 5 = .ok (.iload_n 1, 1) := by decide +kernel
theorem d_W_drop_6 : decode b_W_drop 6 = .ok (.iadd, 1) := by decide +kernel
theorem d_W_drop_7 : decode b_W_drop 7 = .ok (.bipush 64, 2) := by decide +kernel
theorem d_W_drop_9 : decode b_W_drop 9 = .ok (.irem, 1) := by decide +kernel
theorem d_W_drop_10 : decode b_W_drop 10 = .ok (.putfield 19, 3) := by decide +kernel
theorem d_W_drop_13 : decode b_W_drop 13 = .ok (.aload_n 0, 1) := by decide +kernel
theorem d_W_drop_14 : decode b_W_drop 14 = .ok (.dup, 1) := by decide +kernel
theorem d_W_drop_15 : decode b_W_drop 15 = .ok (.getfield 15, 3) := by decide +kernel
theorem d_W_drop_18 : decode b_W_drop 18 = .ok (.iload_n 1, 1) := by decide +kernel
theorem d_W_drop_19 : decode b_W_drop 19 = .ok (.isub, 1) := by decide +kernel
theorem d_W_drop_20 : decode b_W_drop 20 = .ok (.putfield 15, 3) := by decide +kernel
theorem d_W_drop_23 : decode b_W_drop 23 = .ok (.return_, 1) := by decide +kernel
theorem d_L_cell_0 : decode b_L_cell 0 = .ok (.iload_n 1, 1) := by decide +kernel
theorem d_L_cell_1 : decode b_L_cell 1 = .ok (.aload_n 0, 1) := by decide +kernel
theorem d_L_cell_2 : decode b_L_cell 2 = .ok (.arraylength, 1) := by decide +kernel
theorem d_L_cell_3 : decode b_L_cell 3 = .ok (.if_icmp .ge 9, 3) := by decide +kernel
theorem d_L_cell_6 : decode b_L_cell 6 = .ok (.aload_n 0, 1) := by decide +kernel
theorem d_L_cell_7 : decode b_L_cell 7 = .ok (.iload_n 1, 1) := by decide +kernel
theorem d_L_cell_8 : decode b_L_cell 8 = .ok (.iaload, 1) := by decide +kernel
theorem d_L_cell_9 : decode b_L_cell 9 = .ok (.goto 4, 3) := by decide +kernel
theorem d_L_cell_12 : decode b_L_cell 12 = .ok (.iconst 0, 1) := by decide +kernel
theorem d_L_cell_13 : decode b_L_cell 13 = .ok (.ireturn, 1) := by decide +kernel
theorem d_L_encoding_0 : decode b_L_encoding 0 = .ok (.aload 5, 2) := by decide +kernel
theorem d_L_encoding_2 : decode b_L_encoding 2 = .ok (.iconst 0, 1) := by decide +kernel
theorem d_L_encoding_3 : decode b_L_encoding 3 = .ok (.aload_n 0, 1) := by decide +kernel
theorem d_L_encoding_4 : decode b_L_encoding 4 = .ok (.iload_n 1, 1) := by decide +kernel
theorem d_L_encoding_5 : decode b_L_encoding 5 = .ok (.iload_n 2, 1) := by decide +kernel
theorem d_L_encoding_6 : decode b_L_encoding 6 = .ok (.iload_n 3, 1) := by decide +kernel
theorem d_L_encoding_7 : decode b_L_encoding 7 = .ok (.iload 4, 2) := by decide +kernel
theorem d_L_encoding_9 : decode b_L_encoding 9 = .ok (.invokevirtual 7, 3) := by decide +kernel
theorem d_L_encoding_12 : decode b_L_encoding 12 = .ok (.i2l, 1) := by decide +kernel
theorem d_L_encoding_13 : decode b_L_encoding 13 = .ok (.lastore, 1) := by decide +kernel
theorem d_L_encoding_14 : decode b_L_encoding 14 = .ok (.goto 11, 3) := by decide +kernel
theorem d_L_encoding_17 : decode b_L_encoding 17 = .ok (.astore 6, 2) := by decide +kernel
theorem d_L_encoding_19 : decode b_L_encoding 19 = .ok (.iconst 1, 1) := by decide +kernel
theorem d_L_encoding_20 : decode b_L_encoding 20 = .ok (.ireturn, 1) := by decide +kernel
theorem d_L_encoding_21 : decode b_L_encoding 21 = .ok (.astore 6, 2) := by decide +kernel
theorem d_L_encoding_23 : decode b_L_encoding 23 = .ok (.iconst 2, 1) := by decide +kernel
theorem d_L_encoding_24 : decode b_L_encoding 24 = .ok (.ireturn, 1) := by decide +kernel
theorem d_L_encoding_25 : decode b_L_encoding 25 = .ok (.iconst 0, 1) := by decide +kernel
theorem d_L_encoding_26 : decode b_L_encoding 26 = .ok (.ireturn, 1) := by decide +kernel
theorem d_L_kind_0 : decode b_L_kind 0 = .ok (.aload_n 2, 1) := by decide +kernel
theorem d_L_kind_1 : decode b_L_kind 1 = .ok (.iconst 0, 1) := by decide +kernel
theorem d_L_kind_2 : decode b_L_kind 2 = .ok (.aload_n 0, 1) := by decide +kernel
theorem d_L_kind_3 : decode b_L_kind 3 = .ok (.iload_n 1, 1) := by decide +kernel
theorem d_L_kind_4 : decode b_L_kind 4 = .ok (.invokevirtual 17, 3) := by decide +kernel
theorem d_L_kind_7 : decode b_L_kind 7 = .ok (.i2l, 1) := by decide +kernel
theorem d_L_kind_8 : decode b_L_kind 8 = .ok (.lastore, 1) := by decide +kernel
theorem d_L_kind_9 : decode b_L_kind 9 = .ok (.goto 6, 3) := by decide +kernel
theorem d_L_kind_12 : decode b_L_kind 12 = .ok (.astore_n 3, 1) := by decide +kernel
theorem d_L_kind_13 : decode b_L_kind 13 = .ok (.iconst 1, 1) := by decide +kernel
theorem d_L_kind_14 : decode b_L_kind 14 = .ok (.ireturn, 1) := by decide +kernel
theorem d_L_kind_15 : decode b_L_kind 15 = .ok (.iconst 0, 1) := by decide +kernel
theorem d_L_kind_16 : decode b_L_kind 16 = .ok (.ireturn, 1) := by decide +kernel
theorem d_L_tried_0 : decode b_L_tried 0 = .ok (.aload_n 3, 1) := by decide +kernel
theorem d_L_tried_1 : decode b_L_tried 1 = .ok (.iconst 0, 1) := by decide +kernel
theorem d_L_tried_2 : decode b_L_tried 2 = .ok (.aload_n 0, 1) := by decide +kernel
theorem d_L_tried_3 : decode b_L_tried 3 = .ok (.iload_n 1, 1) := by decide +kernel
theorem d_L_tried_4 : decode b_L_tried 4 = .ok (.iload_n 2, 1) := by decide +kernel
theorem d_L_tried_5 : decode b_L_tried 5 = .ok (.invokevirtual 21, 3) := by decide +kernel
theorem d_L_tried_8 : decode b_L_tried 8 = .ok (.i2l, 1) := by decide +kernel
theorem d_L_tried_9 : decode b_L_tried 9 = .ok (.lastore, 1) := by decide +kernel
theorem d_L_tried_10 : decode b_L_tried 10 = .ok (.goto 7, 3) := by decide +kernel
theorem d_L_tried_13 : decode b_L_tried 13 = .ok (.astore 4, 2) := by decide +kernel
theorem d_L_tried_15 : decode b_L_tried 15 = .ok (.iconst 1, 1) := by decide +kernel
theorem d_L_tried_16 : decode b_L_tried 16 = .ok (.ireturn, 1) := by decide +kernel
theorem d_L_tried_17 : decode b_L_tried 17 = .ok (.iconst 0, 1) := by decide +kernel
theorem d_L_tried_18 : decode b_L_tried 18 = .ok (.ireturn, 1) := by decide +kernel
theorem d_L_decode_0 : decode b_L_decode 0 = .ok (.aload_n 3, 1) := by decide +kernel
theorem d_L_decode_1 : decode b_L_decode 1 = .ok (.iconst 0, 1) := by decide +kernel
theorem d_L_decode_2 : decode b_L_decode 2 = .ok (.aload_n 0, 1) := by decide +kernel
theorem d_L_decode_3 : decode b_L_decode 3 = .ok (.iload_n 1, 1) := by decide +kernel
theorem d_L_decode_4 : decode b_L_decode 4 = .ok (.iload_n 2, 1) := by decide +kernel
theorem d_L_decode_5 : decode b_L_decode 5 = .ok (.invokevirtual 25, 3) := by decide +kernel
theorem d_L_decode_8 : decode b_L_decode 8 = .ok (.i2l, 1) := by decide +kernel
theorem d_L_decode_9 : decode b_L_decode 9 = .ok (.lastore, 1) := by decide +kernel
theorem d_L_decode_10 : decode b_L_decode 10 = .ok (.goto 7, 3) := by decide +kernel
theorem d_L_decode_13 : decode b_L_decode 13 = .ok (.astore 4, 2) := by decide +kernel
theorem d_L_decode_15 : decode b_L_decode 15 = .ok (.iconst 1, 1) := by decide +kernel
theorem d_L_decode_16 : decode b_L_decode 16 = .ok (.ireturn, 1) := by decide +kernel
theorem d_L_decode_17 : decode b_L_decode 17 = .ok (.iconst 0, 1) := by decide +kernel
theorem d_L_decode_18 : decode b_L_decode 18 = .ok (.ireturn, 1) := by decide +kernel
theorem d_L_tests_0 : decode b_L_tests 0 = .ok (.aload_n 2, 1) := by decide +kernel
theorem d_L_tests_1 : decode b_L_tests 1 = .ok (.iconst 0, 1) := by decide +kernel
theorem d_L_tests_2 : decode b_L_tests 2 = .ok (.aload_n 0, 1) := by decide +kernel
theorem d_L_tests_3 : decode b_L_tests 3 = .ok (.iload_n 1, 1) := by decide +kernel
theorem d_L_tests_4 : decode b_L_tests 4 = .ok (.invokevirtual 28, 3) := by decide +kernel
theorem d_L_tests_7 : decode b_L_tests 7 = .ok (.i2l, 1) := by decide +kernel
theorem d_L_tests_8 : decode b_L_tests 8 = .ok (.lastore, 1) := by decide +kernel
theorem d_L_tests_9 : decode b_L_tests 9 = .ok (.goto 6, 3) := by decide +kernel
theorem d_L_tests_12 : decode b_L_tests 12 = .ok (.astore_n 3, 1) := by decide +kernel
theorem d_L_tests_13 : decode b_L_tests 13 = .ok (.iconst 1, 1) := by decide +kernel
theorem d_L_tests_14 : decode b_L_tests 14 = .ok (.ireturn, 1) := by decide +kernel
theorem d_L_tests_15 : decode b_L_tests 15 = .ok (.iconst 0, 1) := by decide +kernel
theorem d_L_tests_16 : decode b_L_tests 16 = .ok (.ireturn, 1) := by decide +kernel
theorem d_L_node_0 : decode b_L_node 0 = .ok (.aload_n 3, 1) := by decide +kernel
theorem d_L_node_1 : decode b_L_node 1 = .ok (.iconst 0, 1) := by decide +kernel
theorem d_L_node_2 : decode b_L_node 2 = .ok (.aload_n 0, 1) := by decide +kernel
theorem d_L_node_3 : decode b_L_node 3 = .ok (.iload_n 1, 1) := by decide +kernel
theorem d_L_node_4 : decode b_L_node 4 = .ok (.iload_n 2, 1) := by decide +kernel
theorem d_L_node_5 : decode b_L_node 5 = .ok (.invokevirtual 31, 3) := by decide +kernel
theorem d_L_node_8 : decode b_L_node 8 = .ok (.i2l, 1) := by decide +kernel
theorem d_L_node_9 : decode b_L_node 9 = .ok (.lastore, 1) := by decide +kernel
theorem d_L_node_10 : decode b_L_node 10 = .ok (.goto 7, 3) := by decide +kernel
theorem d_L_node_13 : decode b_L_node 13 = .ok (.astore 4, 2) := by decide +kernel
theorem d_L_node_15 : decode b_L_node 15 = .ok (.iconst 1, 1) := by decide +kernel
theorem d_L_node_16 : decode b_L_node 16 = .ok (.ireturn, 1) := by decide +kernel
theorem d_L_node_17 : decode b_L_node 17 = .ok (.iconst 0, 1) := by decide +kernel
theorem d_L_node_18 : decode b_L_node 18 = .ok (.ireturn, 1) := by decide +kernel
theorem d_L_listed_0 : decode b_L_listed 0 = .ok (.aload_n 3, 1) := by decide +kernel
theorem d_L_listed_1 : decode b_L_listed 1 = .ok (.iconst 0, 1) := by decide +kernel
theorem d_L_listed_2 : decode b_L_listed 2 = .ok (.aload_n 0, 1) := by decide +kernel
theorem d_L_listed_3 : decode b_L_listed 3 = .ok (.iload_n 1, 1) := by decide +kernel
theorem d_L_listed_4 : decode b_L_listed 4 = .ok (.iload_n 2, 1) := by decide +kernel
theorem d_L_listed_5 : decode b_L_listed 5 = .ok (.invokevirtual 36, 3) := by decide +kernel
theorem d_L_listed_8 : decode b_L_listed 8 = .ok (.i2l, 1) := by decide +kernel
theorem d_L_listed_9 : decode b_L_listed 9 = .ok (.lastore, 1) := by decide +kernel
theorem d_L_listed_10 : decode b_L_listed 10 = .ok (.goto 7, 3) := by decide +kernel
theorem d_L_listed_13 : decode b_L_listed 13 = .ok (.astore 4, 2) := by decide +kernel
theorem d_L_listed_15 : decode b_L_listed 15 = .ok (.iconst 1, 1) := by decide +kernel
theorem d_L_listed_16 : decode b_L_listed 16 = .ok (.ireturn, 1) := by decide +kernel
theorem d_L_listed_17 : decode b_L_listed 17 = .ok (.iconst 0, 1) := by decide +kernel
theorem d_L_listed_18 : decode b_L_listed 18 = .ok (.ireturn, 1) := by decide +kernel
theorem d_L_cost_0 : decode b_L_cost 0 = .ok (.aload_n 3, 1) := by decide +kernel
theorem d_L_cost_1 : decode b_L_cost 1 = .ok (.iconst 0, 1) := by decide +kernel
theorem d_L_cost_2 : decode b_L_cost 2 = .ok (.aload_n 0, 1) := by decide +kernel
theorem d_L_cost_3 : decode b_L_cost 3 = .ok (.iload_n 1, 1) := by decide +kernel
theorem d_L_cost_4 : decode b_L_cost 4 = .ok (.iload_n 2, 1) := by decide +kernel
theorem d_L_cost_5 : decode b_L_cost 5 = .ok (.invokevirtual 39, 3) := by decide +kernel
theorem d_L_cost_8 : decode b_L_cost 8 = .ok (.i2l, 1) := by decide +kernel
theorem d_L_cost_9 : decode b_L_cost 9 = .ok (.lastore, 1) := by decide +kernel
theorem d_L_cost_10 : decode b_L_cost 10 = .ok (.goto 7, 3) := by decide +kernel
theorem d_L_cost_13 : decode b_L_cost 13 = .ok (.astore 4, 2) := by decide +kernel
theorem d_L_cost_15 : decode b_L_cost 15 = .ok (.iconst 1, 1) := by decide +kernel
theorem d_L_cost_16 : decode b_L_cost 16 = .ok (.ireturn, 1) := by decide +kernel
theorem d_L_cost_17 : decode b_L_cost 17 = .ok (.iconst 0, 1) := by decide +kernel
theorem d_L_cost_18 : decode b_L_cost 18 = .ok (.ireturn, 1) := by decide +kernel
theorem d_L_feed_0 : decode b_L_feed 0 = .ok (.aload_n 2, 1) := by decide +kernel
theorem d_L_feed_1 : decode b_L_feed 1 = .ok (.iconst 0, 1) := by decide +kernel
theorem d_L_feed_2 : decode b_L_feed 2 = .ok (.aload_n 0, 1) := by decide +kernel
theorem d_L_feed_3 : decode b_L_feed 3 = .ok (.iload_n 1, 1) := by decide +kernel
theorem d_L_feed_4 : decode b_L_feed 4 = .ok (.invokevirtual 42, 3) := by decide +kernel
theorem d_L_feed_7 : decode b_L_feed 7 = .ok (.i2l, 1) := by decide +kernel
theorem d_L_feed_8 : decode b_L_feed 8 = .ok (.lastore, 1) := by decide +kernel
theorem d_L_feed_9 : decode b_L_feed 9 = .ok (.goto 9, 3) := by decide +kernel
theorem d_L_feed_12 : decode b_L_feed 12 = .ok (.astore_n 3, 1) := by decide +kernel
theorem d_L_feed_13 : decode b_L_feed 13 = .ok (.iconst 1, 1) := by decide +kernel
theorem d_L_feed_14 : decode b_L_feed 14 = .ok (.ireturn, 1) := by decide +kernel
theorem d_L_feed_15 : decode b_L_feed 15 = .ok (.astore_n 3, 1) := by decide +kernel
theorem d_L_feed_16 : decode b_L_feed 16 = .ok (.iconst 2, 1) := by decide +kernel
theorem d_L_feed_17 : decode b_L_feed 17 = .ok (.ireturn, 1) := by decide +kernel
theorem d_L_feed_18 : decode b_L_feed 18 = .ok (.iconst 0, 1) := by decide +kernel
theorem d_L_feed_19 : decode b_L_feed 19 = .ok (.ireturn, 1) := by decide +kernel
theorem d_L_take_0 : decode b_L_take 0 = .ok (.aload_n 2, 1) := by decide +kernel
theorem d_L_take_1 : decode b_L_take 1 = .ok (.iconst 0, 1) := by decide +kernel
theorem d_L_take_2 : decode b_L_take 2 = .ok (.aload_n 0, 1) := by decide +kernel
theorem d_L_take_3 : decode b_L_take 3 = .ok (.iload_n 1, 1) := by decide +kernel
theorem d_L_take_4 : decode b_L_take 4 = .ok (.invokevirtual 45, 3) := by decide +kernel
theorem d_L_take_7 : decode b_L_take 7 = .ok (.i2l, 1) := by decide +kernel
theorem d_L_take_8 : decode b_L_take 8 = .ok (.lastore, 1) := by decide +kernel
theorem d_L_take_9 : decode b_L_take 9 = .ok (.goto 9, 3) := by decide +kernel
theorem d_L_take_12 : decode b_L_take 12 = .ok (.astore_n 3, 1) := by decide +kernel
theorem d_L_take_13 : decode b_L_take 13 = .ok (.iconst 1, 1) := by decide +kernel
theorem d_L_take_14 : decode b_L_take 14 = .ok (.ireturn, 1) := by decide +kernel
theorem d_L_take_15 : decode b_L_take 15 = .ok (.astore_n 3, 1) := by decide +kernel
theorem d_L_take_16 : decode b_L_take 16 = .ok (.iconst 2, 1) := by decide +kernel
theorem d_L_take_17 : decode b_L_take 17 = .ok (.ireturn, 1) := by decide +kernel
theorem d_L_take_18 : decode b_L_take 18 = .ok (.iconst 0, 1) := by decide +kernel
theorem d_L_take_19 : decode b_L_take 19 = .ok (.ireturn, 1) := by decide +kernel
theorem d_JI_bitCount_0 : decode b_JI_bitCount 0 = .ok (.iload_n 0, 1) := by decide +kernel
theorem d_JI_bitCount_1 : decode b_JI_bitCount 1 = .ok (.iload_n 0, 1) := by decide +kernel
theorem d_JI_bitCount_2 : decode b_JI_bitCount 2 = .ok (.iconst 1, 1) := by decide +kernel
theorem d_JI_bitCount_3 : decode b_JI_bitCount 3 = .ok (.iushr, 1) := by decide +kernel
theorem d_JI_bitCount_4 : decode b_JI_bitCount 4 = .ok (.ldc_w 265, 3) := by decide +kernel
theorem d_JI_bitCount_7 : decode b_JI_bitCount 7 = .ok (.iand, 1) := by decide +kernel
theorem d_JI_bitCount_8 : decode b_JI_bitCount 8 = .ok (.isub, 1) := by decide +kernel
theorem d_JI_bitCount_9 : decode b_JI_bitCount 9 = .ok (.istore_n 0, 1) := by decide +kernel
theorem d_JI_bitCount_10 : decode b_JI_bitCount 10 = .ok (.iload_n 0, 1) := by decide +kernel
theorem d_JI_bitCount_11 : decode b_JI_bitCount 11 = .ok (.ldc_w 266, 3) := by decide +kernel
theorem d_JI_bitCount_14 : decode b_JI_bitCount 14 = .ok (.iand, 1) := by decide +kernel
theorem d_JI_bitCount_15 : decode b_JI_bitCount 15 = .ok (.iload_n 0, 1) := by decide +kernel
theorem d_JI_bitCount_16 : decode b_JI_bitCount 16 = .ok (.iconst 2, 1) := by decide +kernel
theorem d_JI_bitCount_17 : decode b_JI_bitCount 17 = .ok (.iushr, 1) := by decide +kernel
theorem d_JI_bitCount_18 : decode b_JI_bitCount 18 = .ok (.ldc_w 266, 3) := by decide +kernel
theorem d_JI_bitCount_21 : decode b_JI_bitCount 21 = .ok (.iand, 1) := by decide +kernel
theorem d_JI_bitCount_22 : decode b_JI_bitCount 22 = .ok (.iadd, 1) := by decide +kernel
theorem d_JI_bitCount_23 : decode b_JI_bitCount 23 = .ok (.istore_n 0, 1) := by decide +kernel
theorem d_JI_bitCount_24 : decode b_JI_bitCount 24 = .ok (.iload_n 0, 1) := by decide +kernel
theorem d_JI_bitCount_25 : decode b_JI_bitCount 25 = .ok (.iload_n 0, 1) := by decide +kernel
theorem d_JI_bitCount_26 : decode b_JI_bitCount 26 = .ok (.iconst 4, 1) := by decide +kernel
theorem d_JI_bitCount_27 : decode b_JI_bitCount 27 = .ok (.iushr, 1) := by decide +kernel
theorem d_JI_bitCount_28 : decode b_JI_bitCount 28 = .ok (.iadd, 1) := by decide +kernel
theorem d_JI_bitCount_29 : decode b_JI_bitCount 29 = .ok (.ldc_w 267, 3) := by decide +kernel
theorem d_JI_bitCount_32 : decode b_JI_bitCount 32 = .ok (.iand, 1) := by decide +kernel
theorem d_JI_bitCount_33 : decode b_JI_bitCount 33 = .ok (.istore_n 0, 1) := by decide +kernel
theorem d_JI_bitCount_34 : decode b_JI_bitCount 34 = .ok (.iload_n 0, 1) := by decide +kernel
theorem d_JI_bitCount_35 : decode b_JI_bitCount 35 = .ok (.iload_n 0, 1) := by decide +kernel
theorem d_JI_bitCount_36 : decode b_JI_bitCount 36 = .ok (.bipush 8, 2) := by decide +kernel
theorem d_JI_bitCount_38 : decode b_JI_bitCount 38 = .ok (.iushr, 1) := by decide +kernel
theorem d_JI_bitCount_39 : decode b_JI_bitCount 39 = .ok (.iadd, 1) := by decide +kernel
theorem d_JI_bitCount_40 : decode b_JI_bitCount 40 = .ok (.istore_n 0, 1) := by decide +kernel
theorem d_JI_bitCount_41 : decode b_JI_bitCount 41 = .ok (.iload_n 0, 1) := by decide +kernel
theorem d_JI_bitCount_42 : decode b_JI_bitCount 42 = .ok (.iload_n 0, 1) := by decide +kernel
theorem d_JI_bitCount_43 : decode b_JI_bitCount 43 = .ok (.bipush 16, 2) := by decide +kernel
theorem d_JI_bitCount_45 : decode b_JI_bitCount 45 = .ok (.iushr, 1) := by decide +kernel
theorem d_JI_bitCount_46 : decode b_JI_bitCount 46 = .ok (.iadd, 1) := by decide +kernel
theorem d_JI_bitCount_47 : decode b_JI_bitCount 47 = .ok (.istore_n 0, 1) := by decide +kernel
theorem d_JI_bitCount_48 : decode b_JI_bitCount 48 = .ok (.iload_n 0, 1) := by decide +kernel
theorem d_JI_bitCount_49 : decode b_JI_bitCount 49 = .ok (.bipush 63, 2) := by decide +kernel
theorem d_JI_bitCount_51 : decode b_JI_bitCount 51 = .ok (.iand, 1) := by decide +kernel
theorem d_JI_bitCount_52 : decode b_JI_bitCount 52 = .ok (.ireturn, 1) := by decide +kernel
theorem d_JI_numberOfTrailingZeros_0 : decode b_JI_numberOfTrailingZeros 0 = .ok (.iload_n 0, 1) := by decide +kernel
theorem d_JI_numberOfTrailingZeros_1 : decode b_JI_numberOfTrailingZeros 1 = .ok (.iconst (-1), 1) := by decide +kernel
theorem d_JI_numberOfTrailingZeros_2 : decode b_JI_numberOfTrailingZeros 2 = .ok (.ixor, 1) := by decide +kernel
theorem d_JI_numberOfTrailingZeros_3 : decode b_JI_numberOfTrailingZeros 3 = .ok (.iload_n 0, 1) := by decide +kernel
theorem d_JI_numberOfTrailingZeros_4 : decode b_JI_numberOfTrailingZeros 4 = .ok (.iconst 1, 1) := by decide +kernel
theorem d_JI_numberOfTrailingZeros_5 : decode b_JI_numberOfTrailingZeros 5 = .ok (.isub, 1) := by decide +kernel
theorem d_JI_numberOfTrailingZeros_6 : decode b_JI_numberOfTrailingZeros 6 = .ok (.iand, 1) := by decide +kernel
theorem d_JI_numberOfTrailingZeros_7 : decode b_JI_numberOfTrailingZeros 7 = .ok (.istore_n 0, 1) := by decide +kernel
theorem d_JI_numberOfTrailingZeros_8 : decode b_JI_numberOfTrailingZeros 8 = .ok (.iload_n 0, 1) := by decide +kernel
theorem d_JI_numberOfTrailingZeros_9 : decode b_JI_numberOfTrailingZeros 9 = .ok (.ifCond .gt 8, 3) := by decide +kernel
theorem d_JI_numberOfTrailingZeros_12 : decode b_JI_numberOfTrailingZeros 12 = .ok (.iload_n 0, 1) := by decide +kernel
theorem d_JI_numberOfTrailingZeros_13 : decode b_JI_numberOfTrailingZeros 13 = .ok (.bipush 32, 2) := by decide +kernel
theorem d_JI_numberOfTrailingZeros_15 : decode b_JI_numberOfTrailingZeros 15 = .ok (.iand, 1) := by decide +kernel
theorem d_JI_numberOfTrailingZeros_16 : decode b_JI_numberOfTrailingZeros 16 = .ok (.ireturn, 1) := by decide +kernel
theorem d_JI_numberOfTrailingZeros_17 : decode b_JI_numberOfTrailingZeros 17 = .ok (.iconst 1, 1) := by decide +kernel
theorem d_JI_numberOfTrailingZeros_18 : decode b_JI_numberOfTrailingZeros 18 = .ok (.istore_n 1, 1) := by decide +kernel
theorem d_JI_numberOfTrailingZeros_19 : decode b_JI_numberOfTrailingZeros 19 = .ok (.iload_n 0, 1) := by decide +kernel
theorem d_JI_numberOfTrailingZeros_20 : decode b_JI_numberOfTrailingZeros 20 = .ok (.ldc_w 264, 3) := by decide +kernel
theorem d_JI_numberOfTrailingZeros_23 : decode b_JI_numberOfTrailingZeros 23 = .ok (.if_icmp .le 11, 3) := by decide +kernel
theorem d_JI_numberOfTrailingZeros_26 : decode b_JI_numberOfTrailingZeros 26 = .ok (.iinc 1 16, 3) := by decide +kernel
theorem d_JI_numberOfTrailingZeros_29 : decode b_JI_numberOfTrailingZeros 29 = .ok (.iload_n 0, 1) := by decide +kernel
theorem d_JI_numberOfTrailingZeros_30 : decode b_JI_numberOfTrailingZeros 30 = .ok (.bipush 16, 2) := by decide +kernel
theorem d_JI_numberOfTrailingZeros_32 : decode b_JI_numberOfTrailingZeros 32 = .ok (.iushr, 1) := by decide +kernel
theorem d_JI_numberOfTrailingZeros_33 : decode b_JI_numberOfTrailingZeros 33 = .ok (.istore_n 0, 1) := by decide +kernel
theorem d_JI_numberOfTrailingZeros_34 : decode b_JI_numberOfTrailingZeros 34 = .ok (.iload_n 0, 1) := by decide +kernel
theorem d_JI_numberOfTrailingZeros_35 : decode b_JI_numberOfTrailingZeros 35 = .ok (.sipush 256, 3) := by decide +kernel
theorem d_JI_numberOfTrailingZeros_38 : decode b_JI_numberOfTrailingZeros 38 = .ok (.if_icmp .le 11, 3) := by decide +kernel
theorem d_JI_numberOfTrailingZeros_41 : decode b_JI_numberOfTrailingZeros 41 = .ok (.iinc 1 8, 3) := by decide +kernel
theorem d_JI_numberOfTrailingZeros_44 : decode b_JI_numberOfTrailingZeros 44 = .ok (.iload_n 0, 1) := by decide +kernel
theorem d_JI_numberOfTrailingZeros_45 : decode b_JI_numberOfTrailingZeros 45 = .ok (.bipush 8, 2) := by decide +kernel
theorem d_JI_numberOfTrailingZeros_47 : decode b_JI_numberOfTrailingZeros 47 = .ok (.iushr, 1) := by decide +kernel
theorem d_JI_numberOfTrailingZeros_48 : decode b_JI_numberOfTrailingZeros 48 = .ok (.istore_n 0, 1) := by decide +kernel
theorem d_JI_numberOfTrailingZeros_49 : decode b_JI_numberOfTrailingZeros 49 = .ok (.iload_n 0, 1) := by decide +kernel
theorem d_JI_numberOfTrailingZeros_50 : decode b_JI_numberOfTrailingZeros 50 = .ok (.bipush 16, 2) := by decide +kernel
theorem d_JI_numberOfTrailingZeros_52 : decode b_JI_numberOfTrailingZeros 52 = .ok (.if_icmp .le 10, 3) := by decide +kernel
theorem d_JI_numberOfTrailingZeros_55 : decode b_JI_numberOfTrailingZeros 55 = .ok (.iinc 1 4, 3) := by decide +kernel
theorem d_JI_numberOfTrailingZeros_58 : decode b_JI_numberOfTrailingZeros 58 = .ok (.iload_n 0, 1) := by decide +kernel
theorem d_JI_numberOfTrailingZeros_59 : decode b_JI_numberOfTrailingZeros 59 = .ok (.iconst 4, 1) := by decide +kernel
theorem d_JI_numberOfTrailingZeros_60 : decode b_JI_numberOfTrailingZeros 60 = .ok (.iushr, 1) := by decide +kernel
theorem d_JI_numberOfTrailingZeros_61 : decode b_JI_numberOfTrailingZeros 61 = .ok (.istore_n 0, 1) := by decide +kernel
theorem d_JI_numberOfTrailingZeros_62 : decode b_JI_numberOfTrailingZeros 62 = .ok (.iload_n 0, 1) := by decide +kernel
theorem d_JI_numberOfTrailingZeros_63 : decode b_JI_numberOfTrailingZeros 63 = .ok (.iconst 4, 1) := by decide +kernel
theorem d_JI_numberOfTrailingZeros_64 : decode b_JI_numberOfTrailingZeros 64 = .ok (.if_icmp .le 10, 3) := by decide +kernel
theorem d_JI_numberOfTrailingZeros_67 : decode b_JI_numberOfTrailingZeros 67 = .ok (.iinc 1 2, 3) := by decide +kernel
theorem d_JI_numberOfTrailingZeros_70 : decode b_JI_numberOfTrailingZeros 70 = .ok (.iload_n 0, 1) := by decide +kernel
theorem d_JI_numberOfTrailingZeros_71 : decode b_JI_numberOfTrailingZeros 71 = .ok (.iconst 2, 1) := by decide +kernel
theorem d_JI_numberOfTrailingZeros_72 : decode b_JI_numberOfTrailingZeros 72 = .ok (.iushr, 1) := by decide +kernel
theorem d_JI_numberOfTrailingZeros_73 : decode b_JI_numberOfTrailingZeros 73 = .ok (.istore_n 0, 1) := by decide +kernel
theorem d_JI_numberOfTrailingZeros_74 : decode b_JI_numberOfTrailingZeros 74 = .ok (.iload_n 1, 1) := by decide +kernel
theorem d_JI_numberOfTrailingZeros_75 : decode b_JI_numberOfTrailingZeros 75 = .ok (.iload_n 0, 1) := by decide +kernel
theorem d_JI_numberOfTrailingZeros_76 : decode b_JI_numberOfTrailingZeros 76 = .ok (.iconst 1, 1) := by decide +kernel
theorem d_JI_numberOfTrailingZeros_77 : decode b_JI_numberOfTrailingZeros 77 = .ok (.iushr, 1) := by decide +kernel
theorem d_JI_numberOfTrailingZeros_78 : decode b_JI_numberOfTrailingZeros 78 = .ok (.iadd, 1) := by decide +kernel
theorem d_JI_numberOfTrailingZeros_79 : decode b_JI_numberOfTrailingZeros 79 = .ok (.ireturn, 1) := by decide +kernel
theorem d_JM_floorMod_0 : decode b_JM_floorMod 0 = .ok (.iload_n 0, 1) := by decide +kernel
theorem d_JM_floorMod_1 : decode b_JM_floorMod 1 = .ok (.iload_n 1, 1) := by decide +kernel
theorem d_JM_floorMod_2 : decode b_JM_floorMod 2 = .ok (.irem, 1) := by decide +kernel
theorem d_JM_floorMod_3 : decode b_JM_floorMod 3 = .ok (.istore_n 2, 1) := by decide +kernel
theorem d_JM_floorMod_4 : decode b_JM_floorMod 4 = .ok (.iload_n 0, 1) := by decide +kernel
theorem d_JM_floorMod_5 : decode b_JM_floorMod 5 = .ok (.iload_n 1, 1) := by decide +kernel
theorem d_JM_floorMod_6 : decode b_JM_floorMod 6 = .ok (.ixor, 1) := by decide +kernel
theorem d_JM_floorMod_7 : decode b_JM_floorMod 7 = .ok (.ifCond .ge 11, 3) := by decide +kernel
theorem d_JM_floorMod_10 : decode b_JM_floorMod 10 = .ok (.iload_n 2, 1) := by decide +kernel
theorem d_JM_floorMod_11 : decode b_JM_floorMod 11 = .ok (.ifCond .eq 7, 3) := by decide +kernel
theorem d_JM_floorMod_14 : decode b_JM_floorMod 14 = .ok (.iload_n 2, 1) := by decide +kernel
theorem d_JM_floorMod_15 : decode b_JM_floorMod 15 = .ok (.iload_n 1, 1) := by decide +kernel
theorem d_JM_floorMod_16 : decode b_JM_floorMod 16 = .ok (.iadd, 1) := by decide +kernel
theorem d_JM_floorMod_17 : decode b_JM_floorMod 17 = .ok (.ireturn, 1) := by decide +kernel
theorem d_JM_floorMod_18 : decode b_JM_floorMod 18 = .ok (.iload_n 2, 1) := by decide +kernel
theorem d_JM_floorMod_19 : decode b_JM_floorMod 19 = .ok (.ireturn, 1) := by decide +kernel
theorem d_JM_max_0 : decode b_JM_max 0 = .ok (.iload_n 0, 1) := by decide +kernel
theorem d_JM_max_1 : decode b_JM_max 1 = .ok (.iload_n 1, 1) := by decide +kernel
theorem d_JM_max_2 : decode b_JM_max 2 = .ok (.if_icmp .lt 7, 3) := by decide +kernel
theorem d_JM_max_5 : decode b_JM_max 5 = .ok (.iload_n 0, 1) := by decide +kernel
theorem d_JM_max_6 : decode b_JM_max 6 = .ok (.goto 4, 3) := by decide +kernel
theorem d_JM_max_9 : decode b_JM_max 9 = .ok (.iload_n 1, 1) := by decide +kernel
theorem d_JM_max_10 : decode b_JM_max 10 = .ok (.ireturn, 1) := by decide +kernel
theorem d_JM_min_0 : decode b_JM_min 0 = .ok (.iload_n 0, 1) := by decide +kernel
theorem d_JM_min_1 : decode b_JM_min 1 = .ok (.iload_n 1, 1) := by decide +kernel
theorem d_JM_min_2 : decode b_JM_min 2 = .ok (.if_icmp .gt 7, 3) := by decide +kernel
theorem d_JM_min_5 : decode b_JM_min 5 = .ok (.iload_n 0, 1) := by decide +kernel
theorem d_JM_min_6 : decode b_JM_min 6 = .ok (.goto 4, 3) := by decide +kernel
theorem d_JM_min_9 : decode b_JM_min 9 = .ok (.iload_n 1, 1) := by decide +kernel
theorem d_JM_min_10 : decode b_JM_min 10 = .ok (.ireturn, 1) := by decide +kernel
theorem d_L_law_0 : decode code 0 = .ok (.new 8, 3) := by decide +kernel
theorem d_L_law_3 : decode code 3 = .ok (.dup, 1) := by decide +kernel
theorem d_L_law_4 : decode code 4 = .ok (.aload_n 0, 1) := by decide +kernel
theorem d_L_law_5 : decode code 5 = .ok (.iconst 0, 1) := by decide +kernel
theorem d_L_law_6 : decode code 6 = .ok (.invokestatic 50, 3) := by decide +kernel
theorem d_L_law_9 : decode code 9 = .ok (.invokespecial 56, 3) := by decide +kernel
theorem d_L_law_12 : decode code 12 = .ok (.astore_n 1, 1) := by decide +kernel
theorem d_L_law_13 : decode code 13 = .ok (.new 59, 3) := by decide +kernel
theorem d_L_law_16 : decode code 16 = .ok (.dup, 1) := by decide +kernel
theorem d_L_law_17 : decode code 17 = .ok (.aload_n 0, 1) := by decide +kernel
theorem d_L_law_18 : decode code 18 = .ok (.iconst 0, 1) := by decide +kernel
theorem d_L_law_19 : decode code 19 = .ok (.invokestatic 50, 3) := by decide +kernel
theorem d_L_law_22 : decode code 22 = .ok (.invokespecial 61, 3) := by decide +kernel
theorem d_L_law_25 : decode code 25 = .ok (.astore_n 2, 1) := by decide +kernel
theorem d_L_law_26 : decode code 26 = .ok (.iconst 1, 1) := by decide +kernel
theorem d_L_law_27 : decode code 27 = .ok (.newarray .long, 2) := by decide +kernel
theorem d_L_law_29 : decode code 29 = .ok (.astore_n 3, 1) := by decide +kernel
theorem d_L_law_30 : decode code 30 = .ok (.iconst 1, 1) := by decide +kernel
theorem d_L_law_31 : decode code 31 = .ok (.istore 4, 2) := by decide +kernel
theorem d_L_law_33 : decode code 33 = .ok (.iload 4, 2) := by decide +kernel
theorem d_L_law_35 : decode code 35 = .ok (.aload_n 0, 1) := by decide +kernel
theorem d_L_law_36 : decode code 36 = .ok (.arraylength, 1) := by decide +kernel
theorem d_L_law_37 : decode code 37 = .ok (.iconst 5, 1) := by decide +kernel
theorem d_L_law_38 : decode code 38 = .ok (.isub, 1) := by decide +kernel
theorem d_L_law_39 : decode code 39 = .ok (.if_icmp .gt 790, 3) := by decide +kernel
theorem d_L_law_42 : decode code 42 = .ok (.aload_n 0, 1) := by decide +kernel
theorem d_L_law_43 : decode code 43 = .ok (.iload 4, 2) := by decide +kernel
theorem d_L_law_45 : decode code 45 = .ok (.iaload, 1) := by decide +kernel
theorem d_L_law_46 : decode code 46 = .ok (.bipush 15, 2) := by decide +kernel
theorem d_L_law_48 : decode code 48 = .ok (.iand, 1) := by decide +kernel
theorem d_L_law_49 : decode code 49 = .ok (.tableswitch 774 0 12 #[67, 159, 215, 283, 351, 407, 475, 543, 611, 667, 723, 736, 749], 67) := by decide +kernel
theorem d_L_law_116 : decode code 116 = .ok (.aload_n 1, 1) := by decide +kernel
theorem d_L_law_117 : decode code 117 = .ok (.aload_n 0, 1) := by decide +kernel
theorem d_L_law_118 : decode code 118 = .ok (.iload 4, 2) := by decide +kernel
theorem d_L_law_120 : decode code 120 = .ok (.iconst 1, 1) := by decide +kernel
theorem d_L_law_121 : decode code 121 = .ok (.iadd, 1) := by decide +kernel
theorem d_L_law_122 : decode code 122 = .ok (.iaload, 1) := by decide +kernel
theorem d_L_law_123 : decode code 123 = .ok (.aload_n 0, 1) := by decide +kernel
theorem d_L_law_124 : decode code 124 = .ok (.iload 4, 2) := by decide +kernel
theorem d_L_law_126 : decode code 126 = .ok (.iconst 2, 1) := by decide +kernel
theorem d_L_law_127 : decode code 127 = .ok (.iadd, 1) := by decide +kernel
theorem d_L_law_128 : decode code 128 = .ok (.iaload, 1) := by decide +kernel
theorem d_L_law_129 : decode code 129 = .ok (.aload_n 0, 1) := by decide +kernel
theorem d_L_law_130 : decode code 130 = .ok (.iload 4, 2) := by decide +kernel
theorem d_L_law_132 : decode code 132 = .ok (.iconst 3, 1) := by decide +kernel
theorem d_L_law_133 : decode code 133 = .ok (.iadd, 1) := by decide +kernel
theorem d_L_law_134 : decode code 134 = .ok (.iaload, 1) := by decide +kernel
theorem d_L_law_135 : decode code 135 = .ok (.aload_n 0, 1) := by decide +kernel
theorem d_L_law_136 : decode code 136 = .ok (.iload 4, 2) := by decide +kernel
theorem d_L_law_138 : decode code 138 = .ok (.iconst 4, 1) := by decide +kernel
theorem d_L_law_139 : decode code 139 = .ok (.iadd, 1) := by decide +kernel
theorem d_L_law_140 : decode code 140 = .ok (.iaload, 1) := by decide +kernel
theorem d_L_law_141 : decode code 141 = .ok (.aload_n 3, 1) := by decide +kernel
theorem d_L_law_142 : decode code 142 = .ok (.invokestatic 62, 3) := by decide +kernel
theorem d_L_law_145 : decode code 145 = .ok (.istore 5, 2) := by decide +kernel
theorem d_L_law_147 : decode code 147 = .ok (.aload_n 2, 1) := by decide +kernel
theorem d_L_law_148 : decode code 148 = .ok (.aload_n 0, 1) := by decide +kernel
theorem d_L_law_149 : decode code 149 = .ok (.iload 4, 2) := by decide +kernel
theorem d_L_law_151 : decode code 151 = .ok (.iconst 1, 1) := by decide +kernel
theorem d_L_law_152 : decode code 152 = .ok (.iadd, 1) := by decide +kernel
theorem d_L_law_153 : decode code 153 = .ok (.iaload, 1) := by decide +kernel
theorem d_L_law_154 : decode code 154 = .ok (.aload_n 0, 1) := by decide +kernel
theorem d_L_law_155 : decode code 155 = .ok (.iload 4, 2) := by decide +kernel
theorem d_L_law_157 : decode code 157 = .ok (.iconst 2, 1) := by decide +kernel
theorem d_L_law_158 : decode code 158 = .ok (.iadd, 1) := by decide +kernel
theorem d_L_law_159 : decode code 159 = .ok (.iaload, 1) := by decide +kernel
theorem d_L_law_160 : decode code 160 = .ok (.aload_n 0, 1) := by decide +kernel
theorem d_L_law_161 : decode code 161 = .ok (.iload 4, 2) := by decide +kernel
theorem d_L_law_163 : decode code 163 = .ok (.iconst 3, 1) := by decide +kernel
theorem d_L_law_164 : decode code 164 = .ok (.iadd, 1) := by decide +kernel
theorem d_L_law_165 : decode code 165 = .ok (.iaload, 1) := by decide +kernel
theorem d_L_law_166 : decode code 166 = .ok (.aload_n 0, 1) := by decide +kernel
theorem d_L_law_167 : decode code 167 = .ok (.iload 4, 2) := by decide +kernel
theorem d_L_law_169 : decode code 169 = .ok (.iconst 4, 1) := by decide +kernel
theorem d_L_law_170 : decode code 170 = .ok (.iadd, 1) := by decide +kernel
theorem d_L_law_171 : decode code 171 = .ok (.iaload, 1) := by decide +kernel
theorem d_L_law_172 : decode code 172 = .ok (.invokevirtual 65, 3) := by decide +kernel
theorem d_L_law_175 : decode code 175 = .ok (.istore 6, 2) := by decide +kernel
theorem d_L_law_177 : decode code 177 = .ok (.aload_n 2, 1) := by decide +kernel
theorem d_L_law_178 : decode code 178 = .ok (.invokevirtual 66, 3) := by decide +kernel
theorem d_L_law_181 : decode code 181 = .ok (.iload 5, 2) := by decide +kernel
theorem d_L_law_183 : decode code 183 = .ok (.if_icmp .eq 5, 3) := by decide +kernel
theorem d_L_law_186 : decode code 186 = .ok (.iconst 0, 1) := by decide +kernel
theorem d_L_law_187 : decode code 187 = .ok (.ireturn, 1) := by decide +kernel
theorem d_L_law_188 : decode code 188 = .ok (.iload 5, 2) := by decide +kernel
theorem d_L_law_190 : decode code 190 = .ok (.ifCond .ne 15, 3) := by decide +kernel
theorem d_L_law_193 : decode code 193 = .ok (.aload_n 3, 1) := by decide +kernel
theorem d_L_law_194 : decode code 194 = .ok (.iconst 0, 1) := by decide +kernel
theorem d_L_law_195 : decode code 195 = .ok (.laload, 1) := by decide +kernel
theorem d_L_law_196 : decode code 196 = .ok (.iload 6, 2) := by decide +kernel
theorem d_L_law_198 : decode code 198 = .ok (.i2l, 1) := by decide +kernel
theorem d_L_law_199 : decode code 199 = .ok (.lcmp, 1) := by decide +kernel
theorem d_L_law_200 : decode code 200 = .ok (.ifCond .eq 5, 3) := by decide +kernel
theorem d_L_law_203 : decode code 203 = .ok (.iconst 0, 1) := by decide +kernel
theorem d_L_law_204 : decode code 204 = .ok (.ireturn, 1) := by decide +kernel
theorem d_L_law_205 : decode code 205 = .ok (.goto 618, 3) := by decide +kernel
theorem d_L_law_208 : decode code 208 = .ok (.aload_n 1, 1) := by decide +kernel
theorem d_L_law_209 : decode code 209 = .ok (.aload_n 0, 1) := by decide +kernel
theorem d_L_law_210 : decode code 210 = .ok (.iload 4, 2) := by decide +kernel
theorem d_L_law_212 : decode code 212 = .ok (.iconst 1, 1) := by decide +kernel
theorem d_L_law_213 : decode code 213 = .ok (.iadd, 1) := by decide +kernel
theorem d_L_law_214 : decode code 214 = .ok (.iaload, 1) := by decide +kernel
theorem d_L_law_215 : decode code 215 = .ok (.aload_n 3, 1) := by decide +kernel
theorem d_L_law_216 : decode code 216 = .ok (.invokestatic 70, 3) := by decide +kernel
theorem d_L_law_219 : decode code 219 = .ok (.istore 5, 2) := by decide +kernel
theorem d_L_law_221 : decode code 221 = .ok (.aload_n 2, 1) := by decide +kernel
theorem d_L_law_222 : decode code 222 = .ok (.aload_n 0, 1) := by decide +kernel
theorem d_L_law_223 : decode code 223 = .ok (.iload 4, 2) := by decide +kernel
theorem d_L_law_225 : decode code 225 = .ok (.iconst 1, 1) := by decide +kernel
theorem d_L_law_226 : decode code 226 = .ok (.iadd, 1) := by decide +kernel
theorem d_L_law_227 : decode code 227 = .ok (.iaload, 1) := by decide +kernel
theorem d_L_law_228 : decode code 228 = .ok (.invokevirtual 73, 3) := by decide +kernel
theorem d_L_law_231 : decode code 231 = .ok (.istore 6, 2) := by decide +kernel
theorem d_L_law_233 : decode code 233 = .ok (.aload_n 2, 1) := by decide +kernel
theorem d_L_law_234 : decode code 234 = .ok (.invokevirtual 66, 3) := by decide +kernel
theorem d_L_law_237 : decode code 237 = .ok (.iload 5, 2) := by decide +kernel
theorem d_L_law_239 : decode code 239 = .ok (.if_icmp .eq 5, 3) := by decide +kernel
theorem d_L_law_242 : decode code 242 = .ok (.iconst 0, 1) := by decide +kernel
theorem d_L_law_243 : decode code 243 = .ok (.ireturn, 1) := by decide +kernel
theorem d_L_law_244 : decode code 244 = .ok (.iload 5, 2) := by decide +kernel
theorem d_L_law_246 : decode code 246 = .ok (.ifCond .ne 15, 3) := by decide +kernel
theorem d_L_law_249 : decode code 249 = .ok (.aload_n 3, 1) := by decide +kernel
theorem d_L_law_250 : decode code 250 = .ok (.iconst 0, 1) := by decide +kernel
theorem d_L_law_251 : decode code 251 = .ok (.laload, 1) := by decide +kernel
theorem d_L_law_252 : decode code 252 = .ok (.iload 6, 2) := by decide +kernel
theorem d_L_law_254 : decode code 254 = .ok (.i2l, 1) := by decide +kernel
theorem d_L_law_255 : decode code 255 = .ok (.lcmp, 1) := by decide +kernel
theorem d_L_law_256 : decode code 256 = .ok (.ifCond .eq 5, 3) := by decide +kernel
theorem d_L_law_259 : decode code 259 = .ok (.iconst 0, 1) := by decide +kernel
theorem d_L_law_260 : decode code 260 = .ok (.ireturn, 1) := by decide +kernel
theorem d_L_law_261 : decode code 261 = .ok (.goto 562, 3) := by decide +kernel
theorem d_L_law_264 : decode code 264 = .ok (.aload_n 1, 1) := by decide +kernel
theorem d_L_law_265 : decode code 265 = .ok (.aload_n 0, 1) := by decide +kernel
theorem d_L_law_266 : decode code 266 = .ok (.iload 4, 2) := by decide +kernel
theorem d_L_law_268 : decode code 268 = .ok (.iconst 1, 1) := by decide +kernel
theorem d_L_law_269 : decode code 269 = .ok (.iadd, 1) := by decide +kernel
theorem d_L_law_270 : decode code 270 = .ok (.iaload, 1) := by decide +kernel
theorem d_L_law_271 : decode code 271 = .ok (.aload_n 0, 1) := by decide +kernel
theorem d_L_law_272 : decode code 272 = .ok (.iload 4, 2) := by decide +kernel
theorem d_L_law_274 : decode code 274 = .ok (.iconst 2, 1) := by decide +kernel
theorem d_L_law_275 : decode code 275 = .ok (.iadd, 1) := by decide +kernel
theorem d_L_law_276 : decode code 276 = .ok (.iaload, 1) := by decide +kernel
theorem d_L_law_277 : decode code 277 = .ok (.aload_n 3, 1) := by decide +kernel
theorem d_L_law_278 : decode code 278 = .ok (.invokestatic 74, 3) := by decide +kernel
theorem d_L_law_281 : decode code 281 = .ok (.istore 5, 2) := by decide +kernel
theorem d_L_law_283 : decode code 283 = .ok (.aload_n 2, 1) := by decide +kernel
theorem d_L_law_284 : decode code 284 = .ok (.aload_n 0, 1) := by decide +kernel
theorem d_L_law_285 : decode code 285 = .ok (.iload 4, 2) := by decide +kernel
theorem d_L_law_287 : decode code 287 = .ok (.iconst 1, 1) := by decide +kernel
theorem d_L_law_288 : decode code 288 = .ok (.iadd, 1) := by decide +kernel
theorem d_L_law_289 : decode code 289 = .ok (.iaload, 1) := by decide +kernel
theorem d_L_law_290 : decode code 290 = .ok (.aload_n 0, 1) := by decide +kernel
theorem d_L_law_291 : decode code 291 = .ok (.iload 4, 2) := by decide +kernel
theorem d_L_law_293 : decode code 293 = .ok (.iconst 2, 1) := by decide +kernel
theorem d_L_law_294 : decode code 294 = .ok (.iadd, 1) := by decide +kernel
theorem d_L_law_295 : decode code 295 = .ok (.iaload, 1) := by decide +kernel
theorem d_L_law_296 : decode code 296 = .ok (.invokevirtual 77, 3) := by decide +kernel
theorem d_L_law_299 : decode code 299 = .ok (.istore 6, 2) := by decide +kernel
theorem d_L_law_301 : decode code 301 = .ok (.aload_n 2, 1) := by decide +kernel
theorem d_L_law_302 : decode code 302 = .ok (.invokevirtual 66, 3) := by decide +kernel
theorem d_L_law_305 : decode code 305 = .ok (.iload 5, 2) := by decide +kernel
theorem d_L_law_307 : decode code 307 = .ok (.if_icmp .eq 5, 3) := by decide +kernel
theorem d_L_law_310 : decode code 310 = .ok (.iconst 0, 1) := by decide +kernel
theorem d_L_law_311 : decode code 311 = .ok (.ireturn, 1) := by decide +kernel
theorem d_L_law_312 : decode code 312 = .ok (.iload 5, 2) := by decide +kernel
theorem d_L_law_314 : decode code 314 = .ok (.ifCond .ne 15, 3) := by decide +kernel
theorem d_L_law_317 : decode code 317 = .ok (.aload_n 3, 1) := by decide +kernel
theorem d_L_law_318 : decode code 318 = .ok (.iconst 0, 1) := by decide +kernel
theorem d_L_law_319 : decode code 319 = .ok (.laload, 1) := by decide +kernel
theorem d_L_law_320 : decode code 320 = .ok (.iload 6, 2) := by decide +kernel
theorem d_L_law_322 : decode code 322 = .ok (.i2l, 1) := by decide +kernel
theorem d_L_law_323 : decode code 323 = .ok (.lcmp, 1) := by decide +kernel
theorem d_L_law_324 : decode code 324 = .ok (.ifCond .eq 5, 3) := by decide +kernel
theorem d_L_law_327 : decode code 327 = .ok (.iconst 0, 1) := by decide +kernel
theorem d_L_law_328 : decode code 328 = .ok (.ireturn, 1) := by decide +kernel
theorem d_L_law_329 : decode code 329 = .ok (.goto 494, 3) := by decide +kernel
theorem d_L_law_332 : decode code 332 = .ok (.aload_n 1, 1) := by decide +kernel
theorem d_L_law_333 : decode code 333 = .ok (.aload_n 0, 1) := by decide +kernel
theorem d_L_law_334 : decode code 334 = .ok (.iload 4, 2) := by decide +kernel
theorem d_L_law_336 : decode code 336 = .ok (.iconst 1, 1) := by decide +kernel
theorem d_L_law_337 : decode code 337 = .ok (.iadd, 1) := by decide +kernel
theorem d_L_law_338 : decode code 338 = .ok (.iaload, 1) := by decide +kernel
theorem d_L_law_339 : decode code 339 = .ok (.aload_n 0, 1) := by decide +kernel
theorem d_L_law_340 : decode code 340 = .ok (.iload 4, 2) := by decide +kernel
theorem d_L_law_342 : decode code 342 = .ok (.iconst 2, 1) := by decide +kernel
theorem d_L_law_343 : decode code 343 = .ok (.iadd, 1) := by decide +kernel
theorem d_L_law_344 : decode code 344 = .ok (.iaload, 1) := by decide +kernel
theorem d_L_law_345 : decode code 345 = .ok (.aload_n 3, 1) := by decide +kernel
theorem d_L_law_346 : decode code 346 = .ok (.invokestatic 78, 3) := by decide +kernel
theorem d_L_law_349 : decode code 349 = .ok (.istore 5, 2) := by decide +kernel
theorem d_L_law_351 : decode code 351 = .ok (.aload_n 2, 1) := by decide +kernel
theorem d_L_law_352 : decode code 352 = .ok (.aload_n 0, 1) := by decide +kernel
theorem d_L_law_353 : decode code 353 = .ok (.iload 4, 2) := by decide +kernel
theorem d_L_law_355 : decode code 355 = .ok (.iconst 1, 1) := by decide +kernel
theorem d_L_law_356 : decode code 356 = .ok (.iadd, 1) := by decide +kernel
theorem d_L_law_357 : decode code 357 = .ok (.iaload, 1) := by decide +kernel
theorem d_L_law_358 : decode code 358 = .ok (.aload_n 0, 1) := by decide +kernel
theorem d_L_law_359 : decode code 359 = .ok (.iload 4, 2) := by decide +kernel
theorem d_L_law_361 : decode code 361 = .ok (.iconst 2, 1) := by decide +kernel
theorem d_L_law_362 : decode code 362 = .ok (.iadd, 1) := by decide +kernel
theorem d_L_law_363 : decode code 363 = .ok (.iaload, 1) := by decide +kernel
theorem d_L_law_364 : decode code 364 = .ok (.invokevirtual 80, 3) := by decide +kernel
theorem d_L_law_367 : decode code 367 = .ok (.istore 6, 2) := by decide +kernel
theorem d_L_law_369 : decode code 369 = .ok (.aload_n 2, 1) := by decide +kernel
theorem d_L_law_370 : decode code 370 = .ok (.invokevirtual 66, 3) := by decide +kernel
theorem d_L_law_373 : decode code 373 = .ok (.iload 5, 2) := by decide +kernel
theorem d_L_law_375 : decode code 375 = .ok (.if_icmp .eq 5, 3) := by decide +kernel
theorem d_L_law_378 : decode code 378 = .ok (.iconst 0, 1) := by decide +kernel
theorem d_L_law_379 : decode code 379 = .ok (.ireturn, 1) := by decide +kernel
theorem d_L_law_380 : decode code 380 = .ok (.iload 5, 2) := by decide +kernel
theorem d_L_law_382 : decode code 382 = .ok (.ifCond .ne 15, 3) := by decide +kernel
theorem d_L_law_385 : decode code 385 = .ok (.aload_n 3, 1) := by decide +kernel
theorem d_L_law_386 : decode code 386 = .ok (.iconst 0, 1) := by decide +kernel
theorem d_L_law_387 : decode code 387 = .ok (.laload, 1) := by decide +kernel
theorem d_L_law_388 : decode code 388 = .ok (.iload 6, 2) := by decide +kernel
theorem d_L_law_390 : decode code 390 = .ok (.i2l, 1) := by decide +kernel
theorem d_L_law_391 : decode code 391 = .ok (.lcmp, 1) := by decide +kernel
theorem d_L_law_392 : decode code 392 = .ok (.ifCond .eq 5, 3) := by decide +kernel
theorem d_L_law_395 : decode code 395 = .ok (.iconst 0, 1) := by decide +kernel
theorem d_L_law_396 : decode code 396 = .ok (.ireturn, 1) := by decide +kernel
theorem d_L_law_397 : decode code 397 = .ok (.goto 426, 3) := by decide +kernel
theorem d_L_law_400 : decode code 400 = .ok (.aload_n 1, 1) := by decide +kernel
theorem d_L_law_401 : decode code 401 = .ok (.aload_n 0, 1) := by decide +kernel
theorem d_L_law_402 : decode code 402 = .ok (.iload 4, 2) := by decide +kernel
theorem d_L_law_404 : decode code 404 = .ok (.iconst 1, 1) := by decide +kernel
theorem d_L_law_405 : decode code 405 = .ok (.iadd, 1) := by decide +kernel
theorem d_L_law_406 : decode code 406 = .ok (.iaload, 1) := by decide +kernel
theorem d_L_law_407 : decode code 407 = .ok (.aload_n 3, 1) := by decide +kernel
theorem d_L_law_408 : decode code 408 = .ok (.invokestatic 81, 3) := by decide +kernel
theorem d_L_law_411 : decode code 411 = .ok (.istore 5, 2) := by decide +kernel
theorem d_L_law_413 : decode code 413 = .ok (.aload_n 2, 1) := by decide +kernel
theorem d_L_law_414 : decode code 414 = .ok (.aload_n 0, 1) := by decide +kernel
theorem d_L_law_415 : decode code 415 = .ok (.iload 4, 2) := by decide +kernel
theorem d_L_law_417 : decode code 417 = .ok (.iconst 1, 1) := by decide +kernel
theorem d_L_law_418 : decode code 418 = .ok (.iadd, 1) := by decide +kernel
theorem d_L_law_419 : decode code 419 = .ok (.iaload, 1) := by decide +kernel
theorem d_L_law_420 : decode code 420 = .ok (.invokevirtual 83, 3) := by decide +kernel
theorem d_L_law_423 : decode code 423 = .ok (.istore 6, 2) := by decide +kernel
theorem d_L_law_425 : decode code 425 = .ok (.aload_n 2, 1) := by decide +kernel
theorem d_L_law_426 : decode code 426 = .ok (.invokevirtual 66, 3) := by decide +kernel
theorem d_L_law_429 : decode code 429 = .ok (.iload 5, 2) := by decide +kernel
theorem d_L_law_431 : decode code 431 = .ok (.if_icmp .eq 5, 3) := by decide +kernel
theorem d_L_law_434 : decode code 434 = .ok (.iconst 0, 1) := by decide +kernel
theorem d_L_law_435 : decode code 435 = .ok (.ireturn, 1) := by decide +kernel
theorem d_L_law_436 : decode code 436 = .ok (.iload 5, 2) := by decide +kernel
theorem d_L_law_438 : decode code 438 = .ok (.ifCond .ne 15, 3) := by decide +kernel
theorem d_L_law_441 : decode code 441 = .ok (.aload_n 3, 1) := by decide +kernel
theorem d_L_law_442 : decode code 442 = .ok (.iconst 0, 1) := by decide +kernel
theorem d_L_law_443 : decode code 443 = .ok (.laload, 1) := by decide +kernel
theorem d_L_law_444 : decode code 444 = .ok (.iload 6, 2) := by decide +kernel
theorem d_L_law_446 : decode code 446 = .ok (.i2l, 1) := by decide +kernel
theorem d_L_law_447 : decode code 447 = .ok (.lcmp, 1) := by decide +kernel
theorem d_L_law_448 : decode code 448 = .ok (.ifCond .eq 5, 3) := by decide +kernel
theorem d_L_law_451 : decode code 451 = .ok (.iconst 0, 1) := by decide +kernel
theorem d_L_law_452 : decode code 452 = .ok (.ireturn, 1) := by decide +kernel
theorem d_L_law_453 : decode code 453 = .ok (.goto 370, 3) := by decide +kernel
theorem d_L_law_456 : decode code 456 = .ok (.aload_n 1, 1) := by decide +kernel
theorem d_L_law_457 : decode code 457 = .ok (.aload_n 0, 1) := by decide +kernel
theorem d_L_law_458 : decode code 458 = .ok (.iload 4, 2) := by decide +kernel
theorem d_L_law_460 : decode code 460 = .ok (.iconst 1, 1) := by decide +kernel
theorem d_L_law_461 : decode code 461 = .ok (.iadd, 1) := by decide +kernel
theorem d_L_law_462 : decode code 462 = .ok (.iaload, 1) := by decide +kernel
theorem d_L_law_463 : decode code 463 = .ok (.aload_n 0, 1) := by decide +kernel
theorem d_L_law_464 : decode code 464 = .ok (.iload 4, 2) := by decide +kernel
theorem d_L_law_466 : decode code 466 = .ok (.iconst 2, 1) := by decide +kernel
theorem d_L_law_467 : decode code 467 = .ok (.iadd, 1) := by decide +kernel
theorem d_L_law_468 : decode code 468 = .ok (.iaload, 1) := by decide +kernel
theorem d_L_law_469 : decode code 469 = .ok (.aload_n 3, 1) := by decide +kernel
theorem d_L_law_470 : decode code 470 = .ok (.invokestatic 84, 3) := by decide +kernel
theorem d_L_law_473 : decode code 473 = .ok (.istore 5, 2) := by decide +kernel
theorem d_L_law_475 : decode code 475 = .ok (.aload_n 2, 1) := by decide +kernel
theorem d_L_law_476 : decode code 476 = .ok (.aload_n 0, 1) := by decide +kernel
theorem d_L_law_477 : decode code 477 = .ok (.iload 4, 2) := by decide +kernel
theorem d_L_law_479 : decode code 479 = .ok (.iconst 1, 1) := by decide +kernel
theorem d_L_law_480 : decode code 480 = .ok (.iadd, 1) := by decide +kernel
theorem d_L_law_481 : decode code 481 = .ok (.iaload, 1) := by decide +kernel
theorem d_L_law_482 : decode code 482 = .ok (.aload_n 0, 1) := by decide +kernel
theorem d_L_law_483 : decode code 483 = .ok (.iload 4, 2) := by decide +kernel
theorem d_L_law_485 : decode code 485 = .ok (.iconst 2, 1) := by decide +kernel
theorem d_L_law_486 : decode code 486 = .ok (.iadd, 1) := by decide +kernel
theorem d_L_law_487 : decode code 487 = .ok (.iaload, 1) := by decide +kernel
theorem d_L_law_488 : decode code 488 = .ok (.invokevirtual 86, 3) := by decide +kernel
theorem d_L_law_491 : decode code 491 = .ok (.istore 6, 2) := by decide +kernel
theorem d_L_law_493 : decode code 493 = .ok (.aload_n 2, 1) := by decide +kernel
theorem d_L_law_494 : decode code 494 = .ok (.invokevirtual 66, 3) := by decide +kernel
theorem d_L_law_497 : decode code 497 = .ok (.iload 5, 2) := by decide +kernel
theorem d_L_law_499 : decode code 499 = .ok (.if_icmp .eq 5, 3) := by decide +kernel
theorem d_L_law_502 : decode code 502 = .ok (.iconst 0, 1) := by decide +kernel
theorem d_L_law_503 : decode code 503 = .ok (.ireturn, 1) := by decide +kernel
theorem d_L_law_504 : decode code 504 = .ok (.iload 5, 2) := by decide +kernel
theorem d_L_law_506 : decode code 506 = .ok (.ifCond .ne 15, 3) := by decide +kernel
theorem d_L_law_509 : decode code 509 = .ok (.aload_n 3, 1) := by decide +kernel
theorem d_L_law_510 : decode code 510 = .ok (.iconst 0, 1) := by decide +kernel
theorem d_L_law_511 : decode code 511 = .ok (.laload, 1) := by decide +kernel
theorem d_L_law_512 : decode code 512 = .ok (.iload 6, 2) := by decide +kernel
theorem d_L_law_514 : decode code 514 = .ok (.i2l, 1) := by decide +kernel
theorem d_L_law_515 : decode code 515 = .ok (.lcmp, 1) := by decide +kernel
theorem d_L_law_516 : decode code 516 = .ok (.ifCond .eq 5, 3) := by decide +kernel
theorem d_L_law_519 : decode code 519 = .ok (.iconst 0, 1) := by decide +kernel
theorem d_L_law_520 : decode code 520 = .ok (.ireturn, 1) := by decide +kernel
theorem d_L_law_521 : decode code 521 = .ok (.goto 302, 3) := by decide +kernel
theorem d_L_law_524 : decode code 524 = .ok (.aload_n 1, 1) := by decide +kernel
theorem d_L_law_525 : decode code 525 = .ok (.aload_n 0, 1) := by decide +kernel
theorem d_L_law_526 : decode code 526 = .ok (.iload 4, 2) := by decide +kernel
theorem d_L_law_528 : decode code 528 = .ok (.iconst 1, 1) := by decide +kernel
theorem d_L_law_529 : decode code 529 = .ok (.iadd, 1) := by decide +kernel
theorem d_L_law_530 : decode code 530 = .ok (.iaload, 1) := by decide +kernel
theorem d_L_law_531 : decode code 531 = .ok (.aload_n 0, 1) := by decide +kernel
theorem d_L_law_532 : decode code 532 = .ok (.iload 4, 2) := by decide +kernel
theorem d_L_law_534 : decode code 534 = .ok (.iconst 2, 1) := by decide +kernel
theorem d_L_law_535 : decode code 535 = .ok (.iadd, 1) := by decide +kernel
theorem d_L_law_536 : decode code 536 = .ok (.iaload, 1) := by decide +kernel
theorem d_L_law_537 : decode code 537 = .ok (.aload_n 3, 1) := by decide +kernel
theorem d_L_law_538 : decode code 538 = .ok (.invokestatic 87, 3) := by decide +kernel
theorem d_L_law_541 : decode code 541 = .ok (.istore 5, 2) := by decide +kernel
theorem d_L_law_543 : decode code 543 = .ok (.aload_n 2, 1) := by decide +kernel
theorem d_L_law_544 : decode code 544 = .ok (.aload_n 0, 1) := by decide +kernel
theorem d_L_law_545 : decode code 545 = .ok (.iload 4, 2) := by decide +kernel
theorem d_L_law_547 : decode code 547 = .ok (.iconst 1, 1) := by decide +kernel
theorem d_L_law_548 : decode code 548 = .ok (.iadd, 1) := by decide +kernel
theorem d_L_law_549 : decode code 549 = .ok (.iaload, 1) := by decide +kernel
theorem d_L_law_550 : decode code 550 = .ok (.aload_n 0, 1) := by decide +kernel
theorem d_L_law_551 : decode code 551 = .ok (.iload 4, 2) := by decide +kernel
theorem d_L_law_553 : decode code 553 = .ok (.iconst 2, 1) := by decide +kernel
theorem d_L_law_554 : decode code 554 = .ok (.iadd, 1) := by decide +kernel
theorem d_L_law_555 : decode code 555 = .ok (.iaload, 1) := by decide +kernel
theorem d_L_law_556 : decode code 556 = .ok (.invokevirtual 89, 3) := by decide +kernel
theorem d_L_law_559 : decode code 559 = .ok (.istore 6, 2) := by decide +kernel
theorem d_L_law_561 : decode code 561 = .ok (.aload_n 2, 1) := by decide +kernel
theorem d_L_law_562 : decode code 562 = .ok (.invokevirtual 66, 3) := by decide +kernel
theorem d_L_law_565 : decode code 565 = .ok (.iload 5, 2) := by decide +kernel
theorem d_L_law_567 : decode code 567 = .ok (.if_icmp .eq 5, 3) := by decide +kernel
theorem d_L_law_570 : decode code 570 = .ok (.iconst 0, 1) := by decide +kernel
theorem d_L_law_571 : decode code 571 = .ok (.ireturn, 1) := by decide +kernel
theorem d_L_law_572 : decode code 572 = .ok (.iload 5, 2) := by decide +kernel
theorem d_L_law_574 : decode code 574 = .ok (.ifCond .ne 15, 3) := by decide +kernel
theorem d_L_law_577 : decode code 577 = .ok (.aload_n 3, 1) := by decide +kernel
theorem d_L_law_578 : decode code 578 = .ok (.iconst 0, 1) := by decide +kernel
theorem d_L_law_579 : decode code 579 = .ok (.laload, 1) := by decide +kernel
theorem d_L_law_580 : decode code 580 = .ok (.iload 6, 2) := by decide +kernel
theorem d_L_law_582 : decode code 582 = .ok (.i2l, 1) := by decide +kernel
theorem d_L_law_583 : decode code 583 = .ok (.lcmp, 1) := by decide +kernel
theorem d_L_law_584 : decode code 584 = .ok (.ifCond .eq 5, 3) := by decide +kernel
theorem d_L_law_587 : decode code 587 = .ok (.iconst 0, 1) := by decide +kernel
theorem d_L_law_588 : decode code 588 = .ok (.ireturn, 1) := by decide +kernel
theorem d_L_law_589 : decode code 589 = .ok (.goto 234, 3) := by decide +kernel
theorem d_L_law_592 : decode code 592 = .ok (.aload_n 1, 1) := by decide +kernel
theorem d_L_law_593 : decode code 593 = .ok (.aload_n 0, 1) := by decide +kernel
theorem d_L_law_594 : decode code 594 = .ok (.iload 4, 2) := by decide +kernel
theorem d_L_law_596 : decode code 596 = .ok (.iconst 1, 1) := by decide +kernel
theorem d_L_law_597 : decode code 597 = .ok (.iadd, 1) := by decide +kernel
theorem d_L_law_598 : decode code 598 = .ok (.iaload, 1) := by decide +kernel
theorem d_L_law_599 : decode code 599 = .ok (.aload_n 0, 1) := by decide +kernel
theorem d_L_law_600 : decode code 600 = .ok (.iload 4, 2) := by decide +kernel
theorem d_L_law_602 : decode code 602 = .ok (.iconst 2, 1) := by decide +kernel
theorem d_L_law_603 : decode code 603 = .ok (.iadd, 1) := by decide +kernel
theorem d_L_law_604 : decode code 604 = .ok (.iaload, 1) := by decide +kernel
theorem d_L_law_605 : decode code 605 = .ok (.aload_n 3, 1) := by decide +kernel
theorem d_L_law_606 : decode code 606 = .ok (.invokestatic 90, 3) := by decide +kernel
theorem d_L_law_609 : decode code 609 = .ok (.istore 5, 2) := by decide +kernel
theorem d_L_law_611 : decode code 611 = .ok (.aload_n 2, 1) := by decide +kernel
theorem d_L_law_612 : decode code 612 = .ok (.aload_n 0, 1) := by decide +kernel
theorem d_L_law_613 : decode code 613 = .ok (.iload 4, 2) := by decide +kernel
theorem d_L_law_615 : decode code 615 = .ok (.iconst 1, 1) := by decide +kernel
theorem d_L_law_616 : decode code 616 = .ok (.iadd, 1) := by decide +kernel
theorem d_L_law_617 : decode code 617 = .ok (.iaload, 1) := by decide +kernel
theorem d_L_law_618 : decode code 618 = .ok (.aload_n 0, 1) := by decide +kernel
theorem d_L_law_619 : decode code 619 = .ok (.iload 4, 2) := by decide +kernel
theorem d_L_law_621 : decode code 621 = .ok (.iconst 2, 1) := by decide +kernel
theorem d_L_law_622 : decode code 622 = .ok (.iadd, 1) := by decide +kernel
theorem d_L_law_623 : decode code 623 = .ok (.iaload, 1) := by decide +kernel
theorem d_L_law_624 : decode code 624 = .ok (.invokevirtual 92, 3) := by decide +kernel
theorem d_L_law_627 : decode code 627 = .ok (.istore 6, 2) := by decide +kernel
theorem d_L_law_629 : decode code 629 = .ok (.aload_n 2, 1) := by decide +kernel
theorem d_L_law_630 : decode code 630 = .ok (.invokevirtual 66, 3) := by decide +kernel
theorem d_L_law_633 : decode code 633 = .ok (.iload 5, 2) := by decide +kernel
theorem d_L_law_635 : decode code 635 = .ok (.if_icmp .eq 5, 3) := by decide +kernel
theorem d_L_law_638 : decode code 638 = .ok (.iconst 0, 1) := by decide +kernel
theorem d_L_law_639 : decode code 639 = .ok (.ireturn, 1) := by decide +kernel
theorem d_L_law_640 : decode code 640 = .ok (.iload 5, 2) := by decide +kernel
theorem d_L_law_642 : decode code 642 = .ok (.ifCond .ne 15, 3) := by decide +kernel
theorem d_L_law_645 : decode code 645 = .ok (.aload_n 3, 1) := by decide +kernel
theorem d_L_law_646 : decode code 646 = .ok (.iconst 0, 1) := by decide +kernel
theorem d_L_law_647 : decode code 647 = .ok (.laload, 1) := by decide +kernel
theorem d_L_law_648 : decode code 648 = .ok (.iload 6, 2) := by decide +kernel
theorem d_L_law_650 : decode code 650 = .ok (.i2l, 1) := by decide +kernel
theorem d_L_law_651 : decode code 651 = .ok (.lcmp, 1) := by decide +kernel
theorem d_L_law_652 : decode code 652 = .ok (.ifCond .eq 5, 3) := by decide +kernel
theorem d_L_law_655 : decode code 655 = .ok (.iconst 0, 1) := by decide +kernel
theorem d_L_law_656 : decode code 656 = .ok (.ireturn, 1) := by decide +kernel
theorem d_L_law_657 : decode code 657 = .ok (.goto 166, 3) := by decide +kernel
theorem d_L_law_660 : decode code 660 = .ok (.aload_n 1, 1) := by decide +kernel
theorem d_L_law_661 : decode code 661 = .ok (.aload_n 0, 1) := by decide +kernel
theorem d_L_law_662 : decode code 662 = .ok (.iload 4, 2) := by decide +kernel
theorem d_L_law_664 : decode code 664 = .ok (.iconst 1, 1) := by decide +kernel
theorem d_L_law_665 : decode code 665 = .ok (.iadd, 1) := by decide +kernel
theorem d_L_law_666 : decode code 666 = .ok (.iaload, 1) := by decide +kernel
theorem d_L_law_667 : decode code 667 = .ok (.aload_n 3, 1) := by decide +kernel
theorem d_L_law_668 : decode code 668 = .ok (.invokestatic 93, 3) := by decide +kernel
theorem d_L_law_671 : decode code 671 = .ok (.istore 5, 2) := by decide +kernel
theorem d_L_law_673 : decode code 673 = .ok (.aload_n 2, 1) := by decide +kernel
theorem d_L_law_674 : decode code 674 = .ok (.aload_n 0, 1) := by decide +kernel
theorem d_L_law_675 : decode code 675 = .ok (.iload 4, 2) := by decide +kernel
theorem d_L_law_677 : decode code 677 = .ok (.iconst 1, 1) := by decide +kernel
theorem d_L_law_678 : decode code 678 = .ok (.iadd, 1) := by decide +kernel
theorem d_L_law_679 : decode code 679 = .ok (.iaload, 1) := by decide +kernel
theorem d_L_law_680 : decode code 680 = .ok (.invokevirtual 95, 3) := by decide +kernel
theorem d_L_law_683 : decode code 683 = .ok (.istore 6, 2) := by decide +kernel
theorem d_L_law_685 : decode code 685 = .ok (.aload_n 2, 1) := by decide +kernel
theorem d_L_law_686 : decode code 686 = .ok (.invokevirtual 66, 3) := by decide +kernel
theorem d_L_law_689 : decode code 689 = .ok (.iload 5, 2) := by decide +kernel
theorem d_L_law_691 : decode code 691 = .ok (.if_icmp .eq 5, 3) := by decide +kernel
theorem d_L_law_694 : decode code 694 = .ok (.iconst 0, 1) := by decide +kernel
theorem d_L_law_695 : decode code 695 = .ok (.ireturn, 1) := by decide +kernel
theorem d_L_law_696 : decode code 696 = .ok (.iload 5, 2) := by decide +kernel
theorem d_L_law_698 : decode code 698 = .ok (.ifCond .ne 15, 3) := by decide +kernel
theorem d_L_law_701 : decode code 701 = .ok (.aload_n 3, 1) := by decide +kernel
theorem d_L_law_702 : decode code 702 = .ok (.iconst 0, 1) := by decide +kernel
theorem d_L_law_703 : decode code 703 = .ok (.laload, 1) := by decide +kernel
theorem d_L_law_704 : decode code 704 = .ok (.iload 6, 2) := by decide +kernel
theorem d_L_law_706 : decode code 706 = .ok (.i2l, 1) := by decide +kernel
theorem d_L_law_707 : decode code 707 = .ok (.lcmp, 1) := by decide +kernel
theorem d_L_law_708 : decode code 708 = .ok (.ifCond .eq 5, 3) := by decide +kernel
theorem d_L_law_711 : decode code 711 = .ok (.iconst 0, 1) := by decide +kernel
theorem d_L_law_712 : decode code 712 = .ok (.ireturn, 1) := by decide +kernel
theorem d_L_law_713 : decode code 713 = .ok (.goto 110, 3) := by decide +kernel
theorem d_L_law_716 : decode code 716 = .ok (.aload_n 1, 1) := by decide +kernel
theorem d_L_law_717 : decode code 717 = .ok (.aload_n 0, 1) := by decide +kernel
theorem d_L_law_718 : decode code 718 = .ok (.iload 4, 2) := by decide +kernel
theorem d_L_law_720 : decode code 720 = .ok (.iconst 1, 1) := by decide +kernel
theorem d_L_law_721 : decode code 721 = .ok (.iadd, 1) := by decide +kernel
theorem d_L_law_722 : decode code 722 = .ok (.iaload, 1) := by decide +kernel
theorem d_L_law_723 : decode code 723 = .ok (.aload_n 3, 1) := by decide +kernel
theorem d_L_law_724 : decode code 724 = .ok (.invokestatic 96, 3) := by decide +kernel
theorem d_L_law_727 : decode code 727 = .ok (.istore 5, 2) := by decide +kernel
theorem d_L_law_729 : decode code 729 = .ok (.aload_n 2, 1) := by decide +kernel
theorem d_L_law_730 : decode code 730 = .ok (.aload_n 0, 1) := by decide +kernel
theorem d_L_law_731 : decode code 731 = .ok (.iload 4, 2) := by decide +kernel
theorem d_L_law_733 : decode code 733 = .ok (.iconst 1, 1) := by decide +kernel
theorem d_L_law_734 : decode code 734 = .ok (.iadd, 1) := by decide +kernel
theorem d_L_law_735 : decode code 735 = .ok (.iaload, 1) := by decide +kernel
theorem d_L_law_736 : decode code 736 = .ok (.invokevirtual 98, 3) := by decide +kernel
theorem d_L_law_739 : decode code 739 = .ok (.istore 6, 2) := by decide +kernel
theorem d_L_law_741 : decode code 741 = .ok (.aload_n 2, 1) := by decide +kernel
theorem d_L_law_742 : decode code 742 = .ok (.invokevirtual 66, 3) := by decide +kernel
theorem d_L_law_745 : decode code 745 = .ok (.iload 5, 2) := by decide +kernel
theorem d_L_law_747 : decode code 747 = .ok (.if_icmp .eq 5, 3) := by decide +kernel
theorem d_L_law_750 : decode code 750 = .ok (.iconst 0, 1) := by decide +kernel
theorem d_L_law_751 : decode code 751 = .ok (.ireturn, 1) := by decide +kernel
theorem d_L_law_752 : decode code 752 = .ok (.iload 5, 2) := by decide +kernel
theorem d_L_law_754 : decode code 754 = .ok (.ifCond .ne 15, 3) := by decide +kernel
theorem d_L_law_757 : decode code 757 = .ok (.aload_n 3, 1) := by decide +kernel
theorem d_L_law_758 : decode code 758 = .ok (.iconst 0, 1) := by decide +kernel
theorem d_L_law_759 : decode code 759 = .ok (.laload, 1) := by decide +kernel
theorem d_L_law_760 : decode code 760 = .ok (.iload 6, 2) := by decide +kernel
theorem d_L_law_762 : decode code 762 = .ok (.i2l, 1) := by decide +kernel
theorem d_L_law_763 : decode code 763 = .ok (.lcmp, 1) := by decide +kernel
theorem d_L_law_764 : decode code 764 = .ok (.ifCond .eq 5, 3) := by decide +kernel
theorem d_L_law_767 : decode code 767 = .ok (.iconst 0, 1) := by decide +kernel
theorem d_L_law_768 : decode code 768 = .ok (.ireturn, 1) := by decide +kernel
theorem d_L_law_769 : decode code 769 = .ok (.goto 54, 3) := by decide +kernel
theorem d_L_law_772 : decode code 772 = .ok (.aload_n 1, 1) := by decide +kernel
theorem d_L_law_773 : decode code 773 = .ok (.invokevirtual 99, 3) := by decide +kernel
theorem d_L_law_776 : decode code 776 = .ok (.aload_n 2, 1) := by decide +kernel
theorem d_L_law_777 : decode code 777 = .ok (.invokevirtual 103, 3) := by decide +kernel
theorem d_L_law_780 : decode code 780 = .ok (.if_icmp .eq 43, 3) := by decide +kernel
theorem d_L_law_783 : decode code 783 = .ok (.iconst 0, 1) := by decide +kernel
theorem d_L_law_784 : decode code 784 = .ok (.ireturn, 1) := by decide +kernel
theorem d_L_law_785 : decode code 785 = .ok (.aload_n 1, 1) := by decide +kernel
theorem d_L_law_786 : decode code 786 = .ok (.invokevirtual 104, 3) := by decide +kernel
theorem d_L_law_789 : decode code 789 = .ok (.aload_n 2, 1) := by decide +kernel
theorem d_L_law_790 : decode code 790 = .ok (.invokevirtual 107, 3) := by decide +kernel
theorem d_L_law_793 : decode code 793 = .ok (.if_icmp .eq 30, 3) := by decide +kernel
theorem d_L_law_796 : decode code 796 = .ok (.iconst 0, 1) := by decide +kernel
theorem d_L_law_797 : decode code 797 = .ok (.ireturn, 1) := by decide +kernel
theorem d_L_law_798 : decode code 798 = .ok (.aload_n 1, 1) := by decide +kernel
theorem d_L_law_799 : decode code 799 = .ok (.aload_n 0, 1) := by decide +kernel
theorem d_L_law_800 : decode code 800 = .ok (.iload 4, 2) := by decide +kernel
theorem d_L_law_802 : decode code 802 = .ok (.iconst 1, 1) := by decide +kernel
theorem d_L_law_803 : decode code 803 = .ok (.iadd, 1) := by decide +kernel
theorem d_L_law_804 : decode code 804 = .ok (.iaload, 1) := by decide +kernel
theorem d_L_law_805 : decode code 805 = .ok (.invokevirtual 108, 3) := by decide +kernel
theorem d_L_law_808 : decode code 808 = .ok (.aload_n 2, 1) := by decide +kernel
theorem d_L_law_809 : decode code 809 = .ok (.aload_n 0, 1) := by decide +kernel
theorem d_L_law_810 : decode code 810 = .ok (.iload 4, 2) := by decide +kernel
theorem d_L_law_812 : decode code 812 = .ok (.iconst 1, 1) := by decide +kernel

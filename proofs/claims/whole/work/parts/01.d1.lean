theorem d_D_init_0 : decode b_D_init 0 = .ok (.aload_n 0, 1) := by decide +kernel
theorem d_D_init_1 : decode b_D_init 1 = .ok (.invokespecial 1, 3) := by decide +kernel
theorem d_D_init_4 : decode b_D_init 4 = .ok (.aload_n 0, 1) := by decide +kernel
theorem d_D_init_5 : decode b_D_init 5 = .ok (.iconst 1, 1) := by decide +kernel
theorem d_D_init_6 : decode b_D_init 6 = .ok (.iload_n 1, 1) := by decide +kernel
theorem d_D_init_7 : decode b_D_init 7 = .ok (.iconst 1, 1) := by decide +kernel
theorem d_D_init_8 : decode b_D_init 8 = .ok (.isub, 1) := by decide +kernel
theorem d_D_init_9 : decode b_D_init 9 = .ok (.bipush 8, 2) := by decide +kernel
theorem d_D_init_11 : decode b_D_init 11 = .ok (.invokestatic 9, 3) := by decide +kernel
theorem d_D_init_14 : decode b_D_init 14 = .ok (.iadd, 1) := by decide +kernel
theorem d_D_init_15 : decode b_D_init 15 = .ok (.putfield 15, 3) := by decide +kernel
theorem d_D_init_18 : decode b_D_init 18 = .ok (.aload_n 0, 1) := by decide +kernel
theorem d_D_init_19 : decode b_D_init 19 = .ok (.new 19, 3) := by decide +kernel
theorem d_D_init_22 : decode b_D_init 22 = .ok (.dup, 1) := by decide +kernel
theorem d_D_init_23 : decode b_D_init 23 = .ok (.aload_n 0, 1) := by decide +kernel
theorem d_D_init_24 : decode b_D_init 24 = .ok (.getfield 15, 3) := by decide +kernel
theorem d_D_init_27 : decode b_D_init 27 = .ok (.invokespecial 21, 3) := by decide +kernel
theorem d_D_init_30 : decode b_D_init 30 = .ok (.putfield 24, 3) := by decide +kernel
theorem d_D_init_33 : decode b_D_init 33 = .ok (.aload_n 0, 1) := by decide +kernel
theorem d_D_init_34 : decode b_D_init 34 = .ok (.new 28, 3) := by decide +kernel
theorem d_D_init_37 : decode b_D_init 37 = .ok (.dup, 1) := by decide +kernel
theorem d_D_init_38 : decode b_D_init 38 = .ok (.aload_n 0, 1) := by decide +kernel
theorem d_D_init_39 : decode b_D_init 39 = .ok (.getfield 15, 3) := by decide +kernel
theorem d_D_init_42 : decode b_D_init 42 = .ok (.invokespecial 30, 3) := by decide +kernel
theorem d_D_init_45 : decode b_D_init 45 = .ok (.putfield 31, 3) := by decide +kernel
theorem d_D_init_48 : decode b_D_init 48 = .ok (.aload_n 0, 1) := by decide +kernel
theorem d_D_init_49 : decode b_D_init 49 = .ok (.new 35, 3) := by decide +kernel
theorem d_D_init_52 : decode b_D_init 52 = .ok (.dup, 1) := by decide +kernel
theorem d_D_init_53 : decode b_D_init 53 = .ok (.aload_n 0, 1) := by decide +kernel
theorem d_D_init_54 : decode b_D_init 54 = .ok (.getfield 15, 3) := by decide +kernel
theorem d_D_init_57 : decode b_D_init 57 = .ok (.invokespecial 37, 3) := by decide +kernel
theorem d_D_init_60 : decode b_D_init 60 = .ok (.putfield 38, 3) := by decide +kernel
theorem d_D_init_63 : decode b_D_init 63 = .ok (.aload_n 0, 1) := by decide +kernel
theorem d_D_init_64 : decode b_D_init 64 = .ok (.new 42, 3) := by decide +kernel
theorem d_D_init_67 : decode b_D_init 67 = .ok (.dup, 1) := by decide +kernel
theorem d_D_init_68 : decode b_D_init 68 = .ok (.invokespecial 44, 3) := by decide +kernel
theorem d_D_init_71 : decode b_D_init 71 = .ok (.putfield 45, 3) := by decide +kernel
theorem d_D_init_74 : decode b_D_init 74 = .ok (.aload_n 0, 1) := by decide +kernel
theorem d_D_init_75 : decode b_D_init 75 = .ok (.new 49, 3) := by decide +kernel
theorem d_D_init_78 : decode b_D_init 78 = .ok (.dup, 1) := by decide +kernel
theorem d_D_init_79 : decode b_D_init 79 = .ok (.invokespecial 51, 3) := by decide +kernel
theorem d_D_init_82 : decode b_D_init 82 = .ok (.putfield 52, 3) := by decide +kernel
theorem d_D_init_85 : decode b_D_init 85 = .ok (.aload_n 0, 1) := by decide +kernel
theorem d_D_init_86 : decode b_D_init 86 = .ok (.iconst 0, 1) := by decide +kernel
theorem d_D_init_87 : decode b_D_init 87 = .ok (.putfield 56, 3) := by decide +kernel
theorem d_D_init_90 : decode b_D_init 90 = .ok (.return_, 1) := by decide +kernel
theorem d_D_encoding_0 : decode b_D_encoding 0 = .ok (.aload_n 0, 1) := by decide +kernel
theorem d_D_encoding_1 : decode b_D_encoding 1 = .ok (.iload_n 1, 1) := by decide +kernel
theorem d_D_encoding_2 : decode b_D_encoding 2 = .ok (.invokevirtual 59, 3) := by decide +kernel
theorem d_D_encoding_5 : decode b_D_encoding 5 = .ok (.ifCond .eq 11, 3) := by decide +kernel
theorem d_D_encoding_8 : decode b_D_encoding 8 = .ok (.iload_n 2, 1) := by decide +kernel
theorem d_D_encoding_9 : decode b_D_encoding 9 = .ok (.iload_n 1, 1) := by decide +kernel
theorem d_D_encoding_10 : decode b_D_encoding 10 = .ok (.iconst (-1), 1) := by decide +kernel
theorem d_D_encoding_11 : decode b_D_encoding 11 = .ok (.ixor, 1) := by decide +kernel
theorem d_D_encoding_12 : decode b_D_encoding 12 = .ok (.iand, 1) := by decide +kernel
theorem d_D_encoding_13 : decode b_D_encoding 13 = .ok (.ifCond .eq 13, 3) := by decide +kernel
theorem d_D_encoding_16 : decode b_D_encoding 16 = .ok (.new 63, 3) := by decide +kernel
theorem d_D_encoding_19 : decode b_D_encoding 19 = .ok (.dup, 1) := by decide +kernel
theorem d_D_encoding_20 : decode b_D_encoding 20 = .ok (.ldc 65, 2) := by decide +kernel
theorem d_D_encoding_22 : decode b_D_encoding 22 = .ok (.invokespecial 67, 3) := by decide +kernel
theorem d_D_encoding_25 : decode b_D_encoding 25 = .ok (.athrow, 1) := by decide +kernel
theorem d_D_encoding_26 : decode b_D_encoding 26 = .ok (.iload_n 3, 1) := by decide +kernel
theorem d_D_encoding_27 : decode b_D_encoding 27 = .ok (.iconst 1, 1) := by decide +kernel
theorem d_D_encoding_28 : decode b_D_encoding 28 = .ok (.if_icmp .lt 21, 3) := by decide +kernel
theorem d_D_encoding_31 : decode b_D_encoding 31 = .ok (.iload_n 3, 1) := by decide +kernel
theorem d_D_encoding_32 : decode b_D_encoding 32 = .ok (.iconst 3, 1) := by decide +kernel
theorem d_D_encoding_33 : decode b_D_encoding 33 = .ok (.if_icmp .gt 16, 3) := by decide +kernel
theorem d_D_encoding_36 : decode b_D_encoding 36 = .ok (.iload 4, 2) := by decide +kernel
theorem d_D_encoding_38 : decode b_D_encoding 38 = .ok (.iconst (-1), 1) := by decide +kernel
theorem d_D_encoding_39 : decode b_D_encoding 39 = .ok (.if_icmp .lt 10, 3) := by decide +kernel
theorem d_D_encoding_42 : decode b_D_encoding 42 = .ok (.iload 4, 2) := by decide +kernel
theorem d_D_encoding_44 : decode b_D_encoding 44 = .ok (.bipush 7, 2) := by decide +kernel
theorem d_D_encoding_46 : decode b_D_encoding 46 = .ok (.if_icmp .le 13, 3) := by decide +kernel
theorem d_D_encoding_49 : decode b_D_encoding 49 = .ok (.new 63, 3) := by decide +kernel
theorem d_D_encoding_52 : decode b_D_encoding 52 = .ok (.dup, 1) := by decide +kernel
theorem d_D_encoding_53 : decode b_D_encoding 53 = .ok (.ldc 70, 2) := by decide +kernel
theorem d_D_encoding_55 : decode b_D_encoding 55 = .ok (.invokespecial 67, 3) := by decide +kernel
theorem d_D_encoding_58 : decode b_D_encoding 58 = .ok (.athrow, 1) := by decide +kernel
theorem d_D_encoding_59 : decode b_D_encoding 59 = .ok (.aload_n 0, 1) := by decide +kernel
theorem d_D_encoding_60 : decode b_D_encoding 60 = .ok (.getfield 24, 3) := by decide +kernel
theorem d_D_encoding_63 : decode b_D_encoding 63 = .ok (.invokevirtual 72, 3) := by decide +kernel
theorem d_D_encoding_66 : decode b_D_encoding 66 = .ok (.bipush 14, 2) := by decide +kernel
theorem d_D_encoding_68 : decode b_D_encoding 68 = .ok (.if_icmp .lt 13, 3) := by decide +kernel
theorem d_D_encoding_71 : decode b_D_encoding 71 = .ok (.new 76, 3) := by decide +kernel
theorem d_D_encoding_74 : decode b_D_encoding 74 = .ok (.dup, 1) := by decide +kernel
theorem d_D_encoding_75 : decode b_D_encoding 75 = .ok (.ldc 78, 2) := by decide +kernel
theorem d_D_encoding_77 : decode b_D_encoding 77 = .ok (.invokespecial 80, 3) := by decide +kernel
theorem d_D_encoding_80 : decode b_D_encoding 80 = .ok (.athrow, 1) := by decide +kernel
theorem d_D_encoding_81 : decode b_D_encoding 81 = .ok (.aload_n 0, 1) := by decide +kernel
theorem d_D_encoding_82 : decode b_D_encoding 82 = .ok (.getfield 24, 3) := by decide +kernel
theorem d_D_encoding_85 : decode b_D_encoding 85 = .ok (.iload_n 1, 1) := by decide +kernel
theorem d_D_encoding_86 : decode b_D_encoding 86 = .ok (.iload_n 2, 1) := by decide +kernel
theorem d_D_encoding_87 : decode b_D_encoding 87 = .ok (.iload_n 3, 1) := by decide +kernel
theorem d_D_encoding_88 : decode b_D_encoding 88 = .ok (.iload 4, 2) := by decide +kernel
theorem d_D_encoding_90 : decode b_D_encoding 90 = .ok (.invokevirtual 81, 3) := by decide +kernel
theorem d_D_encoding_93 : decode b_D_encoding 93 = .ok (.istore 5, 2) := by decide +kernel
theorem d_D_encoding_95 : decode b_D_encoding 95 = .ok (.aload_n 0, 1) := by decide +kernel
theorem d_D_encoding_96 : decode b_D_encoding 96 = .ok (.getfield 31, 3) := by decide +kernel
theorem d_D_encoding_99 : decode b_D_encoding 99 = .ok (.invokevirtual 85, 3) := by decide +kernel
theorem d_D_encoding_102 : decode b_D_encoding 102 = .ok (.aload_n 0, 1) := by decide +kernel
theorem d_D_encoding_103 : decode b_D_encoding 103 = .ok (.invokevirtual 88, 3) := by decide +kernel
theorem d_D_encoding_106 : decode b_D_encoding 106 = .ok (.iload 5, 2) := by decide +kernel
theorem d_D_encoding_108 : decode b_D_encoding 108 = .ok (.ireturn, 1) := by decide +kernel
theorem d_D_kind_0 : decode b_D_kind 0 = .ok (.iload_n 1, 1) := by decide +kernel
theorem d_D_kind_1 : decode b_D_kind 1 = .ok (.invokestatic 91, 3) := by decide +kernel
theorem d_D_kind_4 : decode b_D_kind 4 = .ok (.ifCond .ne 13, 3) := by decide +kernel
theorem d_D_kind_7 : decode b_D_kind 7 = .ok (.new 63, 3) := by decide +kernel
theorem d_D_kind_10 : decode b_D_kind 10 = .ok (.dup, 1) := by decide +kernel
theorem d_D_kind_11 : decode b_D_kind 11 = .ok (.ldc 94, 2) := by decide +kernel
theorem d_D_kind_13 : decode b_D_kind 13 = .ok (.invokespecial 67, 3) := by decide +kernel
theorem d_D_kind_16 : decode b_D_kind 16 = .ok (.athrow, 1) := by decide +kernel
theorem d_D_kind_17 : decode b_D_kind 17 = .ok (.aload_n 0, 1) := by decide +kernel
theorem d_D_kind_18 : decode b_D_kind 18 = .ok (.getfield 56, 3) := by decide +kernel
theorem d_D_kind_21 : decode b_D_kind 21 = .ok (.istore_n 2, 1) := by decide +kernel
theorem d_D_kind_22 : decode b_D_kind 22 = .ok (.aload_n 0, 1) := by decide +kernel
theorem d_D_kind_23 : decode b_D_kind 23 = .ok (.iload_n 1, 1) := by decide +kernel
theorem d_D_kind_24 : decode b_D_kind 24 = .ok (.putfield 56, 3) := by decide +kernel
theorem d_D_kind_27 : decode b_D_kind 27 = .ok (.aload_n 0, 1) := by decide +kernel
theorem d_D_kind_28 : decode b_D_kind 28 = .ok (.invokevirtual 88, 3) := by decide +kernel
theorem d_D_kind_31 : decode b_D_kind 31 = .ok (.iload_n 2, 1) := by decide +kernel
theorem d_D_kind_32 : decode b_D_kind 32 = .ok (.ireturn, 1) := by decide +kernel
theorem d_D_tried_0 : decode b_D_tried 0 = .ok (.aload_n 0, 1) := by decide +kernel
theorem d_D_tried_1 : decode b_D_tried 1 = .ok (.iload_n 1, 1) := by decide +kernel
theorem d_D_tried_2 : decode b_D_tried 2 = .ok (.invokevirtual 59, 3) := by decide +kernel
theorem d_D_tried_5 : decode b_D_tried 5 = .ok (.ifCond .eq 10, 3) := by decide +kernel
theorem d_D_tried_8 : decode b_D_tried 8 = .ok (.iload_n 2, 1) := by decide +kernel
theorem d_D_tried_9 : decode b_D_tried 9 = .ok (.invokestatic 96, 3) := by decide +kernel
theorem d_D_tried_12 : decode b_D_tried 12 = .ok (.ifCond .ne 13, 3) := by decide +kernel
theorem d_D_tried_15 : decode b_D_tried 15 = .ok (.new 63, 3) := by decide +kernel
theorem d_D_tried_18 : decode b_D_tried 18 = .ok (.dup, 1) := by decide +kernel
theorem d_D_tried_19 : decode b_D_tried 19 = .ok (.ldc 99, 2) := by decide +kernel
theorem d_D_tried_21 : decode b_D_tried 21 = .ok (.invokespecial 67, 3) := by decide +kernel
theorem d_D_tried_24 : decode b_D_tried 24 = .ok (.athrow, 1) := by decide +kernel
theorem d_D_tried_25 : decode b_D_tried 25 = .ok (.aload_n 0, 1) := by decide +kernel
theorem d_D_tried_26 : decode b_D_tried 26 = .ok (.getfield 24, 3) := by decide +kernel
theorem d_D_tried_29 : decode b_D_tried 29 = .ok (.iload_n 1, 1) := by decide +kernel
theorem d_D_tried_30 : decode b_D_tried 30 = .ok (.iload_n 2, 1) := by decide +kernel
theorem d_D_tried_31 : decode b_D_tried 31 = .ok (.invokevirtual 101, 3) := by decide +kernel
theorem d_D_tried_34 : decode b_D_tried 34 = .ok (.ireturn, 1) := by decide +kernel
theorem d_D_decode_0 : decode b_D_decode 0 = .ok (.aload_n 0, 1) := by decide +kernel
theorem d_D_decode_1 : decode b_D_decode 1 = .ok (.iload_n 1, 1) := by decide +kernel
theorem d_D_decode_2 : decode b_D_decode 2 = .ok (.invokevirtual 59, 3) := by decide +kernel
theorem d_D_decode_5 : decode b_D_decode 5 = .ok (.ifCond .eq 10, 3) := by decide +kernel
theorem d_D_decode_8 : decode b_D_decode 8 = .ok (.iload_n 2, 1) := by decide +kernel
theorem d_D_decode_9 : decode b_D_decode 9 = .ok (.invokestatic 96, 3) := by decide +kernel
theorem d_D_decode_12 : decode b_D_decode 12 = .ok (.ifCond .ne 13, 3) := by decide +kernel
theorem d_D_decode_15 : decode b_D_decode 15 = .ok (.new 63, 3) := by decide +kernel
theorem d_D_decode_18 : decode b_D_decode 18 = .ok (.dup, 1) := by decide +kernel
theorem d_D_decode_19 : decode b_D_decode 19 = .ok (.ldc 99, 2) := by decide +kernel
theorem d_D_decode_21 : decode b_D_decode 21 = .ok (.invokespecial 67, 3) := by decide +kernel
theorem d_D_decode_24 : decode b_D_decode 24 = .ok (.athrow, 1) := by decide +kernel
theorem d_D_decode_25 : decode b_D_decode 25 = .ok (.aload_n 0, 1) := by decide +kernel
theorem d_D_decode_26 : decode b_D_decode 26 = .ok (.iload_n 1, 1) := by decide +kernel
theorem d_D_decode_27 : decode b_D_decode 27 = .ok (.iload_n 2, 1) := by decide +kernel
theorem d_D_decode_28 : decode b_D_decode 28 = .ok (.invokevirtual 104, 3) := by decide +kernel
theorem d_D_decode_31 : decode b_D_decode 31 = .ok (.ireturn, 1) := by decide +kernel
theorem d_D_tests_0 : decode b_D_tests 0 = .ok (.aload_n 0, 1) := by decide +kernel
theorem d_D_tests_1 : decode b_D_tests 1 = .ok (.iload_n 1, 1) := by decide +kernel
theorem d_D_tests_2 : decode b_D_tests 2 = .ok (.invokevirtual 59, 3) := by decide +kernel
theorem d_D_tests_5 : decode b_D_tests 5 = .ok (.ifCond .ne 13, 3) := by decide +kernel
theorem d_D_tests_8 : decode b_D_tests 8 = .ok (.new 63, 3) := by decide +kernel
theorem d_D_tests_11 : decode b_D_tests 11 = .ok (.dup, 1) := by decide +kernel
theorem d_D_tests_12 : decode b_D_tests 12 = .ok (.ldc 107, 2) := by decide +kernel
theorem d_D_tests_14 : decode b_D_tests 14 = .ok (.invokespecial 67, 3) := by decide +kernel
theorem d_D_tests_17 : decode b_D_tests 17 = .ok (.athrow, 1) := by decide +kernel
theorem d_D_tests_18 : decode b_D_tests 18 = .ok (.aload_n 0, 1) := by decide +kernel
theorem d_D_tests_19 : decode b_D_tests 19 = .ok (.invokevirtual 109, 3) := by decide +kernel
theorem d_D_tests_22 : decode b_D_tests 22 = .ok (.astore_n 2, 1) := by decide +kernel
theorem d_D_tests_23 : decode b_D_tests 23 = .ok (.aload_n 2, 1) := by decide +kernel
theorem d_D_tests_24 : decode b_D_tests 24 = .ok (.aload_n 2, 1) := by decide +kernel
theorem d_D_tests_25 : decode b_D_tests 25 = .ok (.iload_n 1, 1) := by decide +kernel
theorem d_D_tests_26 : decode b_D_tests 26 = .ok (.invokevirtual 113, 3) := by decide +kernel
theorem d_D_tests_29 : decode b_D_tests 29 = .ok (.invokevirtual 117, 3) := by decide +kernel
theorem d_D_tests_32 : decode b_D_tests 32 = .ok (.ireturn, 1) := by decide +kernel
theorem d_D_node_0 : decode b_D_node 0 = .ok (.aload_n 0, 1) := by decide +kernel
theorem d_D_node_1 : decode b_D_node 1 = .ok (.invokevirtual 109, 3) := by decide +kernel
theorem d_D_node_4 : decode b_D_node 4 = .ok (.astore_n 3, 1) := by decide +kernel
theorem d_D_node_5 : decode b_D_node 5 = .ok (.aload_n 3, 1) := by decide +kernel
theorem d_D_node_6 : decode b_D_node 6 = .ok (.iload_n 1, 1) := by decide +kernel
theorem d_D_node_7 : decode b_D_node 7 = .ok (.invokevirtual 120, 3) := by decide +kernel
theorem d_D_node_10 : decode b_D_node 10 = .ok (.ifCond .ne 13, 3) := by decide +kernel
theorem d_D_node_13 : decode b_D_node 13 = .ok (.new 123, 3) := by decide +kernel
theorem d_D_node_16 : decode b_D_node 16 = .ok (.dup, 1) := by decide +kernel
theorem d_D_node_17 : decode b_D_node 17 = .ok (.ldc 125, 2) := by decide +kernel
theorem d_D_node_19 : decode b_D_node 19 = .ok (.invokespecial 127, 3) := by decide +kernel
theorem d_D_node_22 : decode b_D_node 22 = .ok (.athrow, 1) := by decide +kernel
theorem d_D_node_23 : decode b_D_node 23 = .ok (.iload_n 2, 1) := by decide +kernel
theorem d_D_node_24 : decode b_D_node 24 = .ok (.tableswitch 71 0 4 #[36, 42, 49, 56, 62], 36) := by decide +kernel
theorem d_D_node_60 : decode b_D_node 60 = .ok (.aload_n 3, 1) := by decide +kernel
theorem d_D_node_61 : decode b_D_node 61 = .ok (.iload_n 1, 1) := by decide +kernel
theorem d_D_node_62 : decode b_D_node 62 = .ok (.invokevirtual 128, 3) := by decide +kernel
theorem d_D_node_65 : decode b_D_node 65 = .ok (.ireturn, 1) := by decide +kernel
theorem d_D_node_66 : decode b_D_node 66 = .ok (.aload_n 3, 1) := by decide +kernel
theorem d_D_node_67 : decode b_D_node 67 = .ok (.iload_n 1, 1) := by decide +kernel
theorem d_D_node_68 : decode b_D_node 68 = .ok (.iconst 0, 1) := by decide +kernel
theorem d_D_node_69 : decode b_D_node 69 = .ok (.invokevirtual 131, 3) := by decide +kernel
theorem d_D_node_72 : decode b_D_node 72 = .ok (.ireturn, 1) := by decide +kernel
theorem d_D_node_73 : decode b_D_node 73 = .ok (.aload_n 3, 1) := by decide +kernel
theorem d_D_node_74 : decode b_D_node 74 = .ok (.iload_n 1, 1) := by decide +kernel
theorem d_D_node_75 : decode b_D_node 75 = .ok (.iconst 1, 1) := by decide +kernel
theorem d_D_node_76 : decode b_D_node 76 = .ok (.invokevirtual 131, 3) := by decide +kernel
theorem d_D_node_79 : decode b_D_node 79 = .ok (.ireturn, 1) := by decide +kernel
theorem d_D_node_80 : decode b_D_node 80 = .ok (.aload_n 3, 1) := by decide +kernel
theorem d_D_node_81 : decode b_D_node 81 = .ok (.iload_n 1, 1) := by decide +kernel
theorem d_D_node_82 : decode b_D_node 82 = .ok (.invokevirtual 134, 3) := by decide +kernel
theorem d_D_node_85 : decode b_D_node 85 = .ok (.ireturn, 1) := by decide +kernel
theorem d_D_node_86 : decode b_D_node 86 = .ok (.aload_n 3, 1) := by decide +kernel
theorem d_D_node_87 : decode b_D_node 87 = .ok (.iload_n 1, 1) := by decide +kernel
theorem d_D_node_88 : decode b_D_node 88 = .ok (.invokevirtual 137, 3) := by decide +kernel
theorem d_D_node_91 : decode b_D_node 91 = .ok (.invokestatic 140, 3) := by decide +kernel
theorem d_D_node_94 : decode b_D_node 94 = .ok (.ireturn, 1) := by decide +kernel
theorem d_D_node_95 : decode b_D_node 95 = .ok (.new 123, 3) := by decide +kernel
theorem d_D_node_98 : decode b_D_node 98 = .ok (.dup, 1) := by decide +kernel
theorem d_D_node_99 : decode b_D_node 99 = .ok (.ldc 145, 2) := by decide +kernel
theorem d_D_node_101 : decode b_D_node 101 = .ok (.invokespecial 127, 3) := by decide +kernel
theorem d_D_node_104 : decode b_D_node 104 = .ok (.athrow, 1) := by decide +kernel
theorem d_D_listed_0 : decode b_D_listed 0 = .ok (.aload_n 0, 1) := by decide +kernel
theorem d_D_listed_1 : decode b_D_listed 1 = .ok (.invokevirtual 109, 3) := by decide +kernel
theorem d_D_listed_4 : decode b_D_listed 4 = .ok (.astore_n 3, 1) := by decide +kernel
theorem d_D_listed_5 : decode b_D_listed 5 = .ok (.aload_n 3, 1) := by decide +kernel
theorem d_D_listed_6 : decode b_D_listed 6 = .ok (.iload_n 1, 1) := by decide +kernel
theorem d_D_listed_7 : decode b_D_listed 7 = .ok (.invokevirtual 120, 3) := by decide +kernel
theorem d_D_listed_10 : decode b_D_listed 10 = .ok (.ifCond .ne 13, 3) := by decide +kernel
theorem d_D_listed_13 : decode b_D_listed 13 = .ok (.new 123, 3) := by decide +kernel
theorem d_D_listed_16 : decode b_D_listed 16 = .ok (.dup, 1) := by decide +kernel
theorem d_D_listed_17 : decode b_D_listed 17 = .ok (.ldc 125, 2) := by decide +kernel
theorem d_D_listed_19 : decode b_D_listed 19 = .ok (.invokespecial 127, 3) := by decide +kernel
theorem d_D_listed_22 : decode b_D_listed 22 = .ok (.athrow, 1) := by decide +kernel
theorem d_D_listed_23 : decode b_D_listed 23 = .ok (.aload_n 3, 1) := by decide +kernel
theorem d_D_listed_24 : decode b_D_listed 24 = .ok (.iload_n 1, 1) := by decide +kernel
theorem d_D_listed_25 : decode b_D_listed 25 = .ok (.invokevirtual 137, 3) := by decide +kernel
theorem d_D_listed_28 : decode b_D_listed 28 = .ok (.istore 4, 2) := by decide +kernel
theorem d_D_listed_30 : decode b_D_listed 30 = .ok (.iload_n 2, 1) := by decide +kernel
theorem d_D_listed_31 : decode b_D_listed 31 = .ok (.ifCond .lt 12, 3) := by decide +kernel
theorem d_D_listed_34 : decode b_D_listed 34 = .ok (.iload_n 2, 1) := by decide +kernel
theorem d_D_listed_35 : decode b_D_listed 35 = .ok (.iload 4, 2) := by decide +kernel
theorem d_D_listed_37 : decode b_D_listed 37 = .ok (.invokestatic 140, 3) := by decide +kernel
theorem d_D_listed_40 : decode b_D_listed 40 = .ok (.if_icmp .lt 13, 3) := by decide +kernel
theorem d_D_listed_43 : decode b_D_listed 43 = .ok (.new 123, 3) := by decide +kernel
theorem d_D_listed_46 : decode b_D_listed 46 = .ok (.dup, 1) := by decide +kernel
theorem d_D_listed_47 : decode b_D_listed 47 = .ok (.ldc 147, 2) := by decide +kernel
theorem d_D_listed_49 : decode b_D_listed 49 = .ok (.invokespecial 127, 3) := by decide +kernel
theorem d_D_listed_52 : decode b_D_listed 52 = .ok (.athrow, 1) := by decide +kernel
theorem d_D_listed_53 : decode b_D_listed 53 = .ok (.iload 4, 2) := by decide +kernel
theorem d_D_listed_55 : decode b_D_listed 55 = .ok (.iload_n 2, 1) := by decide +kernel
theorem d_D_listed_56 : decode b_D_listed 56 = .ok (.invokestatic 149, 3) := by decide +kernel
theorem d_D_listed_59 : decode b_D_listed 59 = .ok (.ireturn, 1) := by decide +kernel
theorem d_D_cost_0 : decode b_D_cost 0 = .ok (.iload_n 1, 1) := by decide +kernel
theorem d_D_cost_1 : decode b_D_cost 1 = .ok (.invokestatic 91, 3) := by decide +kernel
theorem d_D_cost_4 : decode b_D_cost 4 = .ok (.ifCond .eq 12, 3) := by decide +kernel
theorem d_D_cost_7 : decode b_D_cost 7 = .ok (.iload_n 2, 1) := by decide +kernel
theorem d_D_cost_8 : decode b_D_cost 8 = .ok (.ifCond .lt 8, 3) := by decide +kernel
theorem d_D_cost_11 : decode b_D_cost 11 = .ok (.iload_n 2, 1) := by decide +kernel
theorem d_D_cost_12 : decode b_D_cost 12 = .ok (.iconst 1, 1) := by decide +kernel
theorem d_D_cost_13 : decode b_D_cost 13 = .ok (.if_icmp .le 13, 3) := by decide +kernel
theorem d_D_cost_16 : decode b_D_cost 16 = .ok (.new 63, 3) := by decide +kernel
theorem d_D_cost_19 : decode b_D_cost 19 = .ok (.dup, 1) := by decide +kernel
theorem d_D_cost_20 : decode b_D_cost 20 = .ok (.ldc 152, 2) := by decide +kernel
theorem d_D_cost_22 : decode b_D_cost 22 = .ok (.invokespecial 67, 3) := by decide +kernel
theorem d_D_cost_25 : decode b_D_cost 25 = .ok (.athrow, 1) := by decide +kernel
theorem d_D_cost_26 : decode b_D_cost 26 = .ok (.aload_n 0, 1) := by decide +kernel
theorem d_D_cost_27 : decode b_D_cost 27 = .ok (.getfield 31, 3) := by decide +kernel
theorem d_D_cost_30 : decode b_D_cost 30 = .ok (.aload_n 0, 1) := by decide +kernel
theorem d_D_cost_31 : decode b_D_cost 31 = .ok (.getfield 24, 3) := by decide +kernel
theorem d_D_cost_34 : decode b_D_cost 34 = .ok (.invokevirtual 154, 3) := by decide +kernel
theorem d_D_cost_37 : decode b_D_cost 37 = .ok (.iload_n 2, 1) := by decide +kernel
theorem d_D_cost_38 : decode b_D_cost 38 = .ok (.ifCond .ne 14, 3) := by decide +kernel
theorem d_D_cost_41 : decode b_D_cost 41 = .ok (.aload_n 0, 1) := by decide +kernel
theorem d_D_cost_42 : decode b_D_cost 42 = .ok (.getfield 31, 3) := by decide +kernel
theorem d_D_cost_45 : decode b_D_cost 45 = .ok (.iload_n 1, 1) := by decide +kernel
theorem d_D_cost_46 : decode b_D_cost 46 = .ok (.invokevirtual 158, 3) := by decide +kernel
theorem d_D_cost_49 : decode b_D_cost 49 = .ok (.goto 11, 3) := by decide +kernel
theorem d_D_cost_52 : decode b_D_cost 52 = .ok (.aload_n 0, 1) := by decide +kernel
theorem d_D_cost_53 : decode b_D_cost 53 = .ok (.getfield 31, 3) := by decide +kernel
theorem d_D_cost_56 : decode b_D_cost 56 = .ok (.iload_n 1, 1) := by decide +kernel
theorem d_D_cost_57 : decode b_D_cost 57 = .ok (.invokevirtual 161, 3) := by decide +kernel
theorem d_D_cost_60 : decode b_D_cost 60 = .ok (.ireturn, 1) := by decide +kernel
theorem d_D_feed_0 : decode b_D_feed 0 = .ok (.aload_n 0, 1) := by decide +kernel
theorem d_D_feed_1 : decode b_D_feed 1 = .ok (.iload_n 1, 1) := by decide +kernel
theorem d_D_feed_2 : decode b_D_feed 2 = .ok (.invokevirtual 59, 3) := by decide +kernel
theorem d_D_feed_5 : decode b_D_feed 5 = .ok (.ifCond .ne 13, 3) := by decide +kernel
theorem d_D_feed_8 : decode b_D_feed 8 = .ok (.new 63, 3) := by decide +kernel
theorem d_D_feed_11 : decode b_D_feed 11 = .ok (.dup, 1) := by decide +kernel
theorem d_D_feed_12 : decode b_D_feed 12 = .ok (.ldc 107, 2) := by decide +kernel
theorem d_D_feed_14 : decode b_D_feed 14 = .ok (.invokespecial 67, 3) := by decide +kernel
theorem d_D_feed_17 : decode b_D_feed 17 = .ok (.athrow, 1) := by decide +kernel
theorem d_D_feed_18 : decode b_D_feed 18 = .ok (.aload_n 0, 1) := by decide +kernel
theorem d_D_feed_19 : decode b_D_feed 19 = .ok (.getfield 52, 3) := by decide +kernel
theorem d_D_feed_22 : decode b_D_feed 22 = .ok (.invokevirtual 164, 3) := by decide +kernel
theorem d_D_feed_25 : decode b_D_feed 25 = .ok (.bipush 64, 2) := by decide +kernel
theorem d_D_feed_27 : decode b_D_feed 27 = .ok (.if_icmp .lt 13, 3) := by decide +kernel
theorem d_D_feed_30 : decode b_D_feed 30 = .ok (.new 76, 3) := by decide +kernel
theorem d_D_feed_33 : decode b_D_feed 33 = .ok (.dup, 1) := by decide +kernel
theorem d_D_feed_34 : decode b_D_feed 34 = .ok (.ldc 165, 2) := by decide +kernel
theorem d_D_feed_36 : decode b_D_feed 36 = .ok (.invokespecial 80, 3) := by decide +kernel
theorem d_D_feed_39 : decode b_D_feed 39 = .ok (.athrow, 1) := by decide +kernel
theorem d_D_feed_40 : decode b_D_feed 40 = .ok (.aload_n 0, 1) := by decide +kernel
theorem d_D_feed_41 : decode b_D_feed 41 = .ok (.getfield 52, 3) := by decide +kernel
theorem d_D_feed_44 : decode b_D_feed 44 = .ok (.iload_n 1, 1) := by decide +kernel
theorem d_D_feed_45 : decode b_D_feed 45 = .ok (.invokevirtual 167, 3) := by decide +kernel
theorem d_D_feed_48 : decode b_D_feed 48 = .ok (.aload_n 0, 1) := by decide +kernel
theorem d_D_feed_49 : decode b_D_feed 49 = .ok (.getfield 52, 3) := by decide +kernel
theorem d_D_feed_52 : decode b_D_feed 52 = .ok (.invokevirtual 164, 3) := by decide +kernel
theorem d_D_feed_55 : decode b_D_feed 55 = .ok (.ireturn, 1) := by decide +kernel
theorem d_D_take_0 : decode b_D_take 0 = .ok (.iload_n 1, 1) := by decide +kernel
theorem d_D_take_1 : decode b_D_take 1 = .ok (.invokestatic 96, 3) := by decide +kernel
theorem d_D_take_4 : decode b_D_take 4 = .ok (.ifCond .ne 13, 3) := by decide +kernel
theorem d_D_take_7 : decode b_D_take 7 = .ok (.new 63, 3) := by decide +kernel
theorem d_D_take_10 : decode b_D_take 10 = .ok (.dup, 1) := by decide +kernel
theorem d_D_take_11 : decode b_D_take 11 = .ok (.ldc 170, 2) := by decide +kernel
theorem d_D_take_13 : decode b_D_take 13 = .ok (.invokespecial 67, 3) := by decide +kernel
theorem d_D_take_16 : decode b_D_take 16 = .ok (.athrow, 1) := by decide +kernel
theorem d_D_take_17 : decode b_D_take 17 = .ok (.aload_n 0, 1) := by decide +kernel
theorem d_D_take_18 : decode b_D_take 18 = .ok (.getfield 52, 3) := by decide +kernel
theorem d_D_take_21 : decode b_D_take 21 = .ok (.invokevirtual 164, 3) := by decide +kernel
theorem d_D_take_24 : decode b_D_take 24 = .ok (.ifCond .ne 13, 3) := by decide +kernel
theorem d_D_take_27 : decode b_D_take 27 = .ok (.new 172, 3) := by decide +kernel
theorem d_D_take_30 : decode b_D_take 30 = .ok (.dup, 1) := by decide +kernel
theorem d_D_take_31 : decode b_D_take 31 = .ok (.ldc 174, 2) := by decide +kernel
theorem d_D_take_33 : decode b_D_take 33 = .ok (.invokespecial 176, 3) := by decide +kernel
theorem d_D_take_36 : decode b_D_take 36 = .ok (.athrow, 1) := by decide +kernel
theorem d_D_take_37 : decode b_D_take 37 = .ok (.aload_n 0, 1) := by decide +kernel
theorem d_D_take_38 : decode b_D_take 38 = .ok (.aload_n 0, 1) := by decide +kernel
theorem d_D_take_39 : decode b_D_take 39 = .ok (.getfield 52, 3) := by decide +kernel
theorem d_D_take_42 : decode b_D_take 42 = .ok (.invokevirtual 177, 3) := by decide +kernel
theorem d_D_take_45 : decode b_D_take 45 = .ok (.iload_n 1, 1) := by decide +kernel
theorem d_D_take_46 : decode b_D_take 46 = .ok (.invokevirtual 104, 3) := by decide +kernel
theorem d_D_take_49 : decode b_D_take 49 = .ok (.istore_n 2, 1) := by decide +kernel
theorem d_D_take_50 : decode b_D_take 50 = .ok (.iload_n 2, 1) := by decide +kernel
theorem d_D_take_51 : decode b_D_take 51 = .ok (.iconst (-1), 1) := by decide +kernel
theorem d_D_take_52 : decode b_D_take 52 = .ok (.if_icmp .ne 7, 3) := by decide +kernel
theorem d_D_take_55 : decode b_D_take 55 = .ok (.iconst 1, 1) := by decide +kernel
theorem d_D_take_56 : decode b_D_take 56 = .ok (.goto 11, 3) := by decide +kernel
theorem d_D_take_59 : decode b_D_take 59 = .ok (.aload_n 0, 1) := by decide +kernel
theorem d_D_take_60 : decode b_D_take 60 = .ok (.getfield 24, 3) := by decide +kernel
theorem d_D_take_63 : decode b_D_take 63 = .ok (.iload_n 2, 1) := by decide +kernel
theorem d_D_take_64 : decode b_D_take 64 = .ok (.invokevirtual 180, 3) := by decide +kernel
theorem d_D_take_67 : decode b_D_take 67 = .ok (.istore_n 3, 1) := by decide +kernel
theorem d_D_take_68 : decode b_D_take 68 = .ok (.iload_n 3, 1) := by decide +kernel
theorem d_D_take_69 : decode b_D_take 69 = .ok (.aload_n 0, 1) := by decide +kernel
theorem d_D_take_70 : decode b_D_take 70 = .ok (.getfield 52, 3) := by decide +kernel
theorem d_D_take_73 : decode b_D_take 73 = .ok (.invokevirtual 164, 3) := by decide +kernel
theorem d_D_take_76 : decode b_D_take 76 = .ok (.if_icmp .le 6, 3) := by decide +kernel
theorem d_D_take_79 : decode b_D_take 79 = .ok (.bipush (-2), 2) := by decide +kernel
theorem d_D_take_81 : decode b_D_take 81 = .ok (.ireturn, 1) := by decide +kernel
theorem d_D_take_82 : decode b_D_take 82 = .ok (.aload_n 0, 1) := by decide +kernel
theorem d_D_take_83 : decode b_D_take 83 = .ok (.getfield 52, 3) := by decide +kernel
theorem d_D_take_86 : decode b_D_take 86 = .ok (.iload_n 3, 1) := by decide +kernel
theorem d_D_take_87 : decode b_D_take 87 = .ok (.invokevirtual 183, 3) := by decide +kernel
theorem d_D_take_90 : decode b_D_take 90 = .ok (.aload_n 0, 1) := by decide +kernel
theorem d_D_take_91 : decode b_D_take 91 = .ok (.dup, 1) := by decide +kernel
theorem d_D_take_92 : decode b_D_take 92 = .ok (.getfield 186, 3) := by decide +kernel
theorem d_D_take_95 : decode b_D_take 95 = .ok (.iconst 1, 1) := by decide +kernel
theorem d_D_take_96 : decode b_D_take 96 = .ok (.iadd, 1) := by decide +kernel
theorem d_D_take_97 : decode b_D_take 97 = .ok (.putfield 186, 3) := by decide +kernel
theorem d_D_take_100 : decode b_D_take 100 = .ok (.iload_n 2, 1) := by decide +kernel
theorem d_D_take_101 : decode b_D_take 101 = .ok (.ireturn, 1) := by decide +kernel
theorem d_D_whole_0 : decode b_D_whole 0 = .ok (.aload_n 0, 1) := by decide +kernel
theorem d_D_whole_1 : decode b_D_whole 1 = .ok (.getfield 24, 3) := by decide +kernel
theorem d_D_whole_4 : decode b_D_whole 4 = .ok (.invokevirtual 189, 3) := by decide +kernel
theorem d_D_whole_7 : decode b_D_whole 7 = .ok (.ifCond .ne 7, 3) := by decide +kernel
theorem d_D_whole_10 : decode b_D_whole 10 = .ok (.iconst 1, 1) := by decide +kernel
theorem d_D_whole_11 : decode b_D_whole 11 = .ok (.goto 4, 3) := by decide +kernel
theorem d_D_whole_14 : decode b_D_whole 14 = .ok (.iconst 0, 1) := by decide +kernel
theorem d_D_whole_15 : decode b_D_whole 15 = .ok (.ireturn, 1) := by decide +kernel
theorem d_D_crosses_0 : decode b_D_crosses 0 = .ok (.aload_n 0, 1) := by decide +kernel
theorem d_D_crosses_1 : decode b_D_crosses 1 = .ok (.getfield 24, 3) := by decide +kernel
theorem d_D_crosses_4 : decode b_D_crosses 4 = .ok (.invokevirtual 193, 3) := by decide +kernel
theorem d_D_crosses_7 : decode b_D_crosses 7 = .ok (.ireturn, 1) := by decide +kernel
theorem d_D_count_0 : decode b_D_count 0 = .ok (.iload_n 1, 1) := by decide +kernel
theorem d_D_count_1 : decode b_D_count 1 = .ok (.tableswitch 129 0 10 #[59, 67, 75, 83, 88, 93, 98, 106, 111, 119, 124], 59) := by decide +kernel
theorem d_D_count_60 : decode b_D_count 60 = .ok (.aload_n 0, 1) := by decide +kernel
theorem d_D_count_61 : decode b_D_count 61 = .ok (.getfield 24, 3) := by decide +kernel
theorem d_D_count_64 : decode b_D_count 64 = .ok (.invokevirtual 72, 3) := by decide +kernel
theorem d_D_count_67 : decode b_D_count 67 = .ok (.ireturn, 1) := by decide +kernel
theorem d_D_count_68 : decode b_D_count 68 = .ok (.aload_n 0, 1) := by decide +kernel
theorem d_D_count_69 : decode b_D_count 69 = .ok (.invokevirtual 109, 3) := by decide +kernel
theorem d_D_count_72 : decode b_D_count 72 = .ok (.invokevirtual 196, 3) := by decide +kernel
theorem d_D_count_75 : decode b_D_count 75 = .ok (.ireturn, 1) := by decide +kernel
theorem d_D_count_76 : decode b_D_count 76 = .ok (.aload_n 0, 1) := by decide +kernel
theorem d_D_count_77 : decode b_D_count 77 = .ok (.invokevirtual 109, 3) := by decide +kernel
theorem d_D_count_80 : decode b_D_count 80 = .ok (.invokevirtual 197, 3) := by decide +kernel
theorem d_D_count_83 : decode b_D_count 83 = .ok (.ireturn, 1) := by decide +kernel
theorem d_D_count_84 : decode b_D_count 84 = .ok (.aload_n 0, 1) := by decide +kernel
theorem d_D_count_85 : decode b_D_count 85 = .ok (.getfield 200, 3) := by decide +kernel
theorem d_D_count_88 : decode b_D_count 88 = .ok (.ireturn, 1) := by decide +kernel
theorem d_D_count_89 : decode b_D_count 89 = .ok (.aload_n 0, 1) := by decide +kernel
theorem d_D_count_90 : decode b_D_count 90 = .ok (.getfield 203, 3) := by decide +kernel
theorem d_D_count_93 : decode b_D_count 93 = .ok (.ireturn, 1) := by decide +kernel
theorem d_D_count_94 : decode b_D_count 94 = .ok (.aload_n 0, 1) := by decide +kernel
theorem d_D_count_95 : decode b_D_count 95 = .ok (.getfield 206, 3) := by decide +kernel
theorem d_D_count_98 : decode b_D_count 98 = .ok (.ireturn, 1) := by decide +kernel
theorem d_D_count_99 : decode b_D_count 99 = .ok (.aload_n 0, 1) := by decide +kernel
theorem d_D_count_100 : decode b_D_count 100 = .ok (.getfield 52, 3) := by decide +kernel
theorem d_D_count_103 : decode b_D_count 103 = .ok (.invokevirtual 164, 3) := by decide +kernel
theorem d_D_count_106 : decode b_D_count 106 = .ok (.ireturn, 1) := by decide +kernel
theorem d_D_count_107 : decode b_D_count 107 = .ok (.aload_n 0, 1) := by decide +kernel
theorem d_D_count_108 : decode b_D_count 108 = .ok (.getfield 186, 3) := by decide +kernel
theorem d_D_count_111 : decode b_D_count 111 = .ok (.ireturn, 1) := by decide +kernel
theorem d_D_count_112 : decode b_D_count 112 = .ok (.aload_n 0, 1) := by decide +kernel
theorem d_D_count_113 : decode b_D_count 113 = .ok (.getfield 45, 3) := by decide +kernel
theorem d_D_count_116 : decode b_D_count 116 = .ok (.invokevirtual 209, 3) := by decide +kernel
theorem d_D_count_119 : decode b_D_count 119 = .ok (.ireturn, 1) := by decide +kernel
theorem d_D_count_120 : decode b_D_count 120 = .ok (.aload_n 0, 1) := by decide +kernel
theorem d_D_count_121 : decode b_D_count 121 = .ok (.getfield 15, 3) := by decide +kernel
theorem d_D_count_124 : decode b_D_count 124 = .ok (.ireturn, 1) := by decide +kernel
theorem d_D_count_125 : decode b_D_count 125 = .ok (.aload_n 0, 1) := by decide +kernel
theorem d_D_count_126 : decode b_D_count 126 = .ok (.getfield 56, 3) := by decide +kernel
theorem d_D_count_129 : decode b_D_count 129 = .ok (.ireturn, 1) := by decide +kernel
theorem d_D_count_130 : decode b_D_count 130 = .ok (.iconst (-1), 1) := by decide +kernel
theorem d_D_count_131 : decode b_D_count 131 = .ok (.ireturn, 1) := by decide +kernel
theorem d_D_isWord_0 : decode b_D_isWord 0 = .ok (.iload_n 1, 1) := by decide +kernel
theorem d_D_isWord_1 : decode b_D_isWord 1 = .ok (.ifCond .lt 17, 3) := by decide +kernel
theorem d_D_isWord_4 : decode b_D_isWord 4 = .ok (.iload_n 1, 1) := by decide +kernel
theorem d_D_isWord_5 : decode b_D_isWord 5 = .ok (.iconst 1, 1) := by decide +kernel
theorem d_D_isWord_6 : decode b_D_isWord 6 = .ok (.aload_n 0, 1) := by decide +kernel
theorem d_D_isWord_7 : decode b_D_isWord 7 = .ok (.getfield 15, 3) := by decide +kernel
theorem d_D_isWord_10 : decode b_D_isWord 10 = .ok (.ishl, 1) := by decide +kernel
theorem d_D_isWord_11 : decode b_D_isWord 11 = .ok (.if_icmp .ge 7, 3) := by decide +kernel
theorem d_D_isWord_14 : decode b_D_isWord 14 = .ok (.iconst 1, 1) := by decide +kernel
theorem d_D_isWord_15 : decode b_D_isWord 15 = .ok (.goto 4, 3) := by decide +kernel
theorem d_D_isWord_18 : decode b_D_isWord 18 = .ok (.iconst 0, 1) := by decide +kernel
theorem d_D_isWord_19 : decode b_D_isWord 19 = .ok (.ireturn, 1) := by decide +kernel
theorem d_D_isFlags_0 : decode b_D_isFlags 0 = .ok (.iload_n 0, 1) := by decide +kernel
theorem d_D_isFlags_1 : decode b_D_isFlags 1 = .ok (.ifCond .lt 14, 3) := by decide +kernel
theorem d_D_isFlags_4 : decode b_D_isFlags 4 = .ok (.iload_n 0, 1) := by decide +kernel
theorem d_D_isFlags_5 : decode b_D_isFlags 5 = .ok (.sipush 255, 3) := by decide +kernel
theorem d_D_isFlags_8 : decode b_D_isFlags 8 = .ok (.if_icmp .gt 7, 3) := by decide +kernel
theorem d_D_isFlags_11 : decode b_D_isFlags 11 = .ok (.iconst 1, 1) := by decide +kernel
theorem d_D_isFlags_12 : decode b_D_isFlags 12 = .ok (.goto 4, 3) := by decide +kernel
theorem d_D_isFlags_15 : decode b_D_isFlags 15 = .ok (.iconst 0, 1) := by decide +kernel
theorem d_D_isFlags_16 : decode b_D_isFlags 16 = .ok (.ireturn, 1) := by decide +kernel
theorem d_D_isKind_0 : decode b_D_isKind 0 = .ok (.iload_n 0, 1) := by decide +kernel
theorem d_D_isKind_1 : decode b_D_isKind 1 = .ok (.ifCond .lt 12, 3) := by decide +kernel
theorem d_D_isKind_4 : decode b_D_isKind 4 = .ok (.iload_n 0, 1) := by decide +kernel
theorem d_D_isKind_5 : decode b_D_isKind 5 = .ok (.iconst 2, 1) := by decide +kernel
theorem d_D_isKind_6 : decode b_D_isKind 6 = .ok (.if_icmp .gt 7, 3) := by decide +kernel
theorem d_D_isKind_9 : decode b_D_isKind 9 = .ok (.iconst 1, 1) := by decide +kernel
theorem d_D_isKind_10 : decode b_D_isKind 10 = .ok (.goto 4, 3) := by decide +kernel
theorem d_D_isKind_13 : decode b_D_isKind 13 = .ok (.iconst 0, 1) := by decide +kernel
theorem d_D_isKind_14 : decode b_D_isKind 14 = .ok (.ireturn, 1) := by decide +kernel
theorem d_D_dropTree_0 : decode b_D_dropTree 0 = .ok (.aload_n 0, 1) := by decide +kernel
theorem d_D_dropTree_1 : decode b_D_dropTree 1 = .ok (.getfield 38, 3) := by decide +kernel
theorem d_D_dropTree_4 : decode b_D_dropTree 4 = .ok (.invokevirtual 210, 3) := by decide +kernel
theorem d_D_dropTree_7 : decode b_D_dropTree 7 = .ok (.aload_n 0, 1) := by decide +kernel
theorem d_D_dropTree_8 : decode b_D_dropTree 8 = .ok (.getfield 45, 3) := by decide +kernel
theorem d_D_dropTree_11 : decode b_D_dropTree 11 = .ok (.invokevirtual 213, 3) := by decide +kernel
theorem d_D_dropTree_14 : decode b_D_dropTree 14 = .ok (.return_, 1) := by decide +kernel
theorem d_D_grownTree_0 : decode b_D_grownTree 0 = .ok (.aload_n 0, 1) := by decide +kernel
theorem d_D_grownTree_1 : decode b_D_grownTree 1 = .ok (.getfield 38, 3) := by decide +kernel
theorem d_D_grownTree_4 : decode b_D_grownTree 4 = .ok (.invokevirtual 196, 3) := by decide +kernel
theorem d_D_grownTree_7 : decode b_D_grownTree 7 = .ok (.ifCond .ne 29, 3) := by decide +kernel
theorem d_D_grownTree_10 : decode b_D_grownTree 10 = .ok (.aload_n 0, 1) := by decide +kernel
theorem d_D_grownTree_11 : decode b_D_grownTree 11 = .ok (.getfield 31, 3) := by decide +kernel
theorem d_D_grownTree_14 : decode b_D_grownTree 14 = .ok (.aload_n 0, 1) := by decide +kernel
theorem d_D_grownTree_15 : decode b_D_grownTree 15 = .ok (.getfield 24, 3) := by decide +kernel
theorem d_D_grownTree_18 : decode b_D_grownTree 18 = .ok (.invokevirtual 154, 3) := by decide +kernel
theorem d_D_grownTree_21 : decode b_D_grownTree 21 = .ok (.aload_n 0, 1) := by decide +kernel
theorem d_D_grownTree_22 : decode b_D_grownTree 22 = .ok (.getfield 38, 3) := by decide +kernel
theorem d_D_grownTree_25 : decode b_D_grownTree 25 = .ok (.aload_n 0, 1) := by decide +kernel
theorem d_D_grownTree_26 : decode b_D_grownTree 26 = .ok (.getfield 31, 3) := by decide +kernel
theorem d_D_grownTree_29 : decode b_D_grownTree 29 = .ok (.aload_n 0, 1) := by decide +kernel
theorem d_D_grownTree_30 : decode b_D_grownTree 30 = .ok (.getfield 56, 3) := by decide +kernel
theorem d_D_grownTree_33 : decode b_D_grownTree 33 = .ok (.invokevirtual 214, 3) := by decide +kernel
theorem d_D_grownTree_36 : decode b_D_grownTree 36 = .ok (.aload_n 0, 1) := by decide +kernel
theorem d_D_grownTree_37 : decode b_D_grownTree 37 = .ok (.getfield 38, 3) := by decide +kernel
theorem d_D_grownTree_40 : decode b_D_grownTree 40 = .ok (.areturn, 1) := by decide +kernel
theorem d_D_answerFor_0 : decode b_D_answerFor 0 = .ok (.aload_n 0, 1) := by decide +kernel
theorem d_D_answerFor_1 : decode b_D_answerFor 1 = .ok (.getfield 45, 3) := by decide +kernel
theorem d_D_answerFor_4 : decode b_D_answerFor 4 = .ok (.iload_n 1, 1) := by decide +kernel
theorem d_D_answerFor_5 : decode b_D_answerFor 5 = .ok (.iload_n 2, 1) := by decide +kernel
theorem d_D_answerFor_6 : decode b_D_answerFor 6 = .ok (.invokevirtual 218, 3) := by decide +kernel
theorem d_D_answerFor_9 : decode b_D_answerFor 9 = .ok (.ifCond .eq 22, 3) := by decide +kernel
theorem d_D_answerFor_12 : decode b_D_answerFor 12 = .ok (.aload_n 0, 1) := by decide +kernel
theorem d_D_answerFor_13 : decode b_D_answerFor 13 = .ok (.dup, 1) := by decide +kernel
theorem d_D_answerFor_14 : decode b_D_answerFor 14 = .ok (.getfield 200, 3) := by decide +kernel
theorem d_D_answerFor_17 : decode b_D_answerFor 17 = .ok (.iconst 1, 1) := by decide +kernel
theorem d_D_answerFor_18 : decode b_D_answerFor 18 = .ok (.iadd, 1) := by decide +kernel
theorem d_D_answerFor_19 : decode b_D_answerFor 19 = .ok (.putfield 200, 3) := by decide +kernel
theorem d_D_answerFor_22 : decode b_D_answerFor 22 = .ok (.aload_n 0, 1) := by decide +kernel
theorem d_D_answerFor_23 : decode b_D_answerFor 23 = .ok (.getfield 45, 3) := by decide +kernel
theorem d_D_answerFor_26 : decode b_D_answerFor 26 = .ok (.iload_n 1, 1) := by decide +kernel
theorem d_D_answerFor_27 : decode b_D_answerFor 27 = .ok (.invokevirtual 222, 3) := by decide +kernel
theorem d_D_answerFor_30 : decode b_D_answerFor 30 = .ok (.ireturn, 1) := by decide +kernel
theorem d_D_answerFor_31 : decode b_D_answerFor 31 = .ok (.aload_n 0, 1) := by decide +kernel
theorem d_D_answerFor_32 : decode b_D_answerFor 32 = .ok (.invokevirtual 109, 3) := by decide +kernel
theorem d_D_answerFor_35 : decode b_D_answerFor 35 = .ok (.astore_n 3, 1) := by decide +kernel
theorem d_D_answerFor_36 : decode b_D_answerFor 36 = .ok (.aload_n 3, 1) := by decide +kernel
theorem d_D_answerFor_37 : decode b_D_answerFor 37 = .ok (.iload_n 1, 1) := by decide +kernel
theorem d_D_answerFor_38 : decode b_D_answerFor 38 = .ok (.invokevirtual 113, 3) := by decide +kernel
theorem d_D_answerFor_41 : decode b_D_answerFor 41 = .ok (.istore 4, 2) := by decide +kernel
theorem d_D_answerFor_43 : decode b_D_answerFor 43 = .ok (.aload_n 0, 1) := by decide +kernel
theorem d_D_answerFor_44 : decode b_D_answerFor 44 = .ok (.getfield 24, 3) := by decide +kernel
theorem d_D_answerFor_47 : decode b_D_answerFor 47 = .ok (.aload_n 3, 1) := by decide +kernel
theorem d_D_answerFor_48 : decode b_D_answerFor 48 = .ok (.iload 4, 2) := by decide +kernel
theorem d_D_answerFor_50 : decode b_D_answerFor 50 = .ok (.invokevirtual 137, 3) := by decide +kernel
theorem d_D_answerFor_53 : decode b_D_answerFor 53 = .ok (.iload_n 2, 1) := by decide +kernel
theorem d_D_answerFor_54 : decode b_D_answerFor 54 = .ok (.invokevirtual 225, 3) := by decide +kernel
theorem d_D_answerFor_57 : decode b_D_answerFor 57 = .ok (.istore 5, 2) := by decide +kernel
theorem d_D_answerFor_59 : decode b_D_answerFor 59 = .ok (.aload_n 0, 1) := by decide +kernel
theorem d_D_answerFor_60 : decode b_D_answerFor 60 = .ok (.dup, 1) := by decide +kernel
theorem d_D_answerFor_61 : decode b_D_answerFor 61 = .ok (.getfield 203, 3) := by decide +kernel
theorem d_D_answerFor_64 : decode b_D_answerFor 64 = .ok (.iconst 1, 1) := by decide +kernel
theorem d_D_answerFor_65 : decode b_D_answerFor 65 = .ok (.iadd, 1) := by decide +kernel
theorem d_D_answerFor_66 : decode b_D_answerFor 66 = .ok (.putfield 203, 3) := by decide +kernel
theorem d_D_answerFor_69 : decode b_D_answerFor 69 = .ok (.aload_n 0, 1) := by decide +kernel
theorem d_D_answerFor_70 : decode b_D_answerFor 70 = .ok (.dup, 1) := by decide +kernel
theorem d_D_answerFor_71 : decode b_D_answerFor 71 = .ok (.getfield 206, 3) := by decide +kernel
theorem d_D_answerFor_74 : decode b_D_answerFor 74 = .ok (.aload_n 3, 1) := by decide +kernel
theorem d_D_answerFor_75 : decode b_D_answerFor 75 = .ok (.iload 4, 2) := by decide +kernel
theorem d_D_answerFor_77 : decode b_D_answerFor 77 = .ok (.invokevirtual 117, 3) := by decide +kernel
theorem d_D_answerFor_80 : decode b_D_answerFor 80 = .ok (.iadd, 1) := by decide +kernel
theorem d_D_answerFor_81 : decode b_D_answerFor 81 = .ok (.putfield 206, 3) := by decide +kernel
theorem d_D_answerFor_84 : decode b_D_answerFor 84 = .ok (.aload_n 0, 1) := by decide +kernel
theorem d_D_answerFor_85 : decode b_D_answerFor 85 = .ok (.getfield 45, 3) := by decide +kernel
theorem d_D_answerFor_88 : decode b_D_answerFor 88 = .ok (.iload_n 1, 1) := by decide +kernel
theorem d_D_answerFor_89 : decode b_D_answerFor 89 = .ok (.iload_n 2, 1) := by decide +kernel
theorem d_D_answerFor_90 : decode b_D_answerFor 90 = .ok (.iload 5, 2) := by decide +kernel
theorem d_D_answerFor_92 : decode b_D_answerFor 92 = .ok (.invokevirtual 228, 3) := by decide +kernel
theorem d_D_answerFor_95 : decode b_D_answerFor 95 = .ok (.iload 5, 2) := by decide +kernel
theorem d_D_answerFor_97 : decode b_D_answerFor 97 = .ok (.ireturn, 1) := by decide +kernel
theorem d_M_init_0 : decode b_M_init 0 = .ok (.aload_n 0, 1) := by decide +kernel
theorem d_M_init_1 : decode b_M_init 1 = .ok (.invokespecial 1, 3) := by decide +kernel
theorem d_M_init_4 : decode b_M_init 4 = .ok (.aload_n 0, 1) := by decide +kernel
theorem d_M_init_5 : decode b_M_init 5 = .ok (.bipush 14, 2) := by decide +kernel
theorem d_M_init_7 : decode b_M_init 7 = .ok (.newarray .int, 2) := by decide +kernel
theorem d_M_init_9 : decode b_M_init 9 = .ok (.putfield 7, 3) := by decide +kernel
theorem d_M_init_12 : decode b_M_init 12 = .ok (.aload_n 0, 1) := by decide +kernel
theorem d_M_init_13 : decode b_M_init 13 = .ok (.bipush 14, 2) := by decide +kernel
theorem d_M_init_15 : decode b_M_init 15 = .ok (.newarray .int, 2) := by decide +kernel
theorem d_M_init_17 : decode b_M_init 17 = .ok (.putfield 13, 3) := by decide +kernel
theorem d_M_init_20 : decode b_M_init 20 = .ok (.aload_n 0, 1) := by decide +kernel
theorem d_M_init_21 : decode b_M_init 21 = .ok (.bipush 14, 2) := by decide +kernel
theorem d_M_init_23 : decode b_M_init 23 = .ok (.newarray .int, 2) := by decide +kernel
theorem d_M_init_25 : decode b_M_init 25 = .ok (.putfield 16, 3) := by decide +kernel
theorem d_M_init_28 : decode b_M_init 28 = .ok (.aload_n 0, 1) := by decide +kernel
theorem d_M_init_29 : decode b_M_init 29 = .ok (.bipush 14, 2) := by decide +kernel
theorem d_M_init_31 : decode b_M_init 31 = .ok (.newarray .int, 2) := by decide +kernel
theorem d_M_init_33 : decode b_M_init 33 = .ok (.putfield 19, 3) := by decide +kernel
theorem d_M_init_36 : decode b_M_init 36 = .ok (.aload_n 0, 1) := by decide +kernel
theorem d_M_init_37 : decode b_M_init 37 = .ok (.sipush 256, 3) := by decide +kernel
theorem d_M_init_40 : decode b_M_init 40 = .ok (.newarray .int, 2) := by decide +kernel
theorem d_M_init_42 : decode b_M_init 42 = .ok (.putfield 22, 3) := by decide +kernel
theorem d_M_init_45 : decode b_M_init 45 = .ok (.aload_n 0, 1) := by decide +kernel
theorem d_M_init_46 : decode b_M_init 46 = .ok (.sipush 256, 3) := by decide +kernel
theorem d_M_init_49 : decode b_M_init 49 = .ok (.newarray .int, 2) := by decide +kernel
theorem d_M_init_51 : decode b_M_init 51 = .ok (.putfield 25, 3) := by decide +kernel
theorem d_M_init_54 : decode b_M_init 54 = .ok (.aload_n 0, 1) := by decide +kernel
theorem d_M_init_55 : decode b_M_init 55 = .ok (.sipush 3584, 3) := by decide +kernel
theorem d_M_init_58 : decode b_M_init 58 = .ok (.newarray .int, 2) := by decide +kernel
theorem d_M_init_60 : decode b_M_init 60 = .ok (.putfield 28, 3) := by decide +kernel
theorem d_M_init_63 : decode b_M_init 63 = .ok (.aload_n 0, 1) := by decide +kernel
theorem d_M_init_64 : decode b_M_init 64 = .ok (.sipush 6561, 3) := by decide +kernel
theorem d_M_init_67 : decode b_M_init 67 = .ok (.newarray .int, 2) := by decide +kernel
theorem d_M_init_69 : decode b_M_init 69 = .ok (.putfield 31, 3) := by decide +kernel
theorem d_M_init_72 : decode b_M_init 72 = .ok (.aload_n 0, 1) := by decide +kernel
theorem d_M_init_73 : decode b_M_init 73 = .ok (.sipush 6561, 3) := by decide +kernel
theorem d_M_init_76 : decode b_M_init 76 = .ok (.newarray .int, 2) := by decide +kernel
theorem d_M_init_78 : decode b_M_init 78 = .ok (.putfield 34, 3) := by decide +kernel
theorem d_M_init_81 : decode b_M_init 81 = .ok (.aload_n 0, 1) := by decide +kernel
theorem d_M_init_82 : decode b_M_init 82 = .ok (.sipush 19683, 3) := by decide +kernel
theorem d_M_init_85 : decode b_M_init 85 = .ok (.newarray .int, 2) := by decide +kernel
theorem d_M_init_87 : decode b_M_init 87 = .ok (.putfield 37, 3) := by decide +kernel
theorem d_M_init_90 : decode b_M_init 90 = .ok (.aload_n 0, 1) := by decide +kernel
theorem d_M_init_91 : decode b_M_init 91 = .ok (.sipush 19683, 3) := by decide +kernel
theorem d_M_init_94 : decode b_M_init 94 = .ok (.newarray .int, 2) := by decide +kernel
theorem d_M_init_96 : decode b_M_init 96 = .ok (.putfield 40, 3) := by decide +kernel
theorem d_M_init_99 : decode b_M_init 99 = .ok (.aload_n 0, 1) := by decide +kernel
theorem d_M_init_100 : decode b_M_init 100 = .ok (.sipush 19683, 3) := by decide +kernel
theorem d_M_init_103 : decode b_M_init 103 = .ok (.newarray .int, 2) := by decide +kernel
theorem d_M_init_105 : decode b_M_init 105 = .ok (.putfield 43, 3) := by decide +kernel
theorem d_M_init_108 : decode b_M_init 108 = .ok (.aload_n 0, 1) := by decide +kernel
theorem d_M_init_109 : decode b_M_init 109 = .ok (.bipush 9, 2) := by decide +kernel
theorem d_M_init_111 : decode b_M_init 111 = .ok (.newarray .int, 2) := by decide +kernel
theorem d_M_init_113 : decode b_M_init 113 = .ok (.dup, 1) := by decide +kernel
theorem d_M_init_114 : decode b_M_init 114 = .ok (.iconst 0, 1) := by decide +kernel
theorem d_M_init_115 : decode b_M_init 115 = .ok (.iconst 1, 1) := by decide +kernel
theorem d_M_init_116 : decode b_M_init 116 = .ok (.iastore, 1) := by decide +kernel
theorem d_M_init_117 : decode b_M_init 117 = .ok (.dup, 1) := by decide +kernel
theorem d_M_init_118 : decode b_M_init 118 = .ok (.iconst 1, 1) := by decide +kernel
theorem d_M_init_119 : decode b_M_init 119 = .ok (.iconst 3, 1) := by decide +kernel
theorem d_M_init_120 : decode b_M_init 120 = .ok (.iastore, 1) := by decide +kernel
theorem d_M_init_121 : decode b_M_init 121 = .ok (.dup, 1) := by decide +kernel
theorem d_M_init_122 : decode b_M_init 122 = .ok (.iconst 2, 1) := by decide +kernel
theorem d_M_init_123 : decode b_M_init 123 = .ok (.bipush 9, 2) := by decide +kernel
theorem d_M_init_125 : decode b_M_init 125 = .ok (.iastore, 1) := by decide +kernel
theorem d_M_init_126 : decode b_M_init 126 = .ok (.dup, 1) := by decide +kernel
theorem d_M_init_127 : decode b_M_init 127 = .ok (.iconst 3, 1) := by decide +kernel
theorem d_M_init_128 : decode b_M_init 128 = .ok (.bipush 27, 2) := by decide +kernel
theorem d_M_init_130 : decode b_M_init 130 = .ok (.iastore, 1) := by decide +kernel
theorem d_M_init_131 : decode b_M_init 131 = .ok (.dup, 1) := by decide +kernel
theorem d_M_init_132 : decode b_M_init 132 = .ok (.iconst 4, 1) := by decide +kernel
theorem d_M_init_133 : decode b_M_init 133 = .ok (.bipush 81, 2) := by decide +kernel
theorem d_M_init_135 : decode b_M_init 135 = .ok (.iastore, 1) := by decide +kernel
theorem d_M_init_136 : decode b_M_init 136 = .ok (.dup, 1) := by decide +kernel
theorem d_M_init_137 : decode b_M_init 137 = .ok (.iconst 5, 1) := by decide +kernel
theorem d_M_init_138 : decode b_M_init 138 = .ok (.sipush 243, 3) := by decide +kernel
theorem d_M_init_141 : decode b_M_init 141 = .ok (.iastore, 1) := by decide +kernel
theorem d_M_init_142 : decode b_M_init 142 = .ok (.dup, 1) := by decide +kernel
theorem d_M_init_143 : decode b_M_init 143 = .ok (.bipush 6, 2) := by decide +kernel
theorem d_M_init_145 : decode b_M_init 145 = .ok (.sipush 729, 3) := by decide +kernel
theorem d_M_init_148 : decode b_M_init 148 = .ok (.iastore, 1) := by decide +kernel
theorem d_M_init_149 : decode b_M_init 149 = .ok (.dup, 1) := by decide +kernel
theorem d_M_init_150 : decode b_M_init 150 = .ok (.bipush 7, 2) := by decide +kernel
theorem d_M_init_152 : decode b_M_init 152 = .ok (.sipush 2187, 3) := by decide +kernel
theorem d_M_init_155 : decode b_M_init 155 = .ok (.iastore, 1) := by decide +kernel
theorem d_M_init_156 : decode b_M_init 156 = .ok (.dup, 1) := by decide +kernel
theorem d_M_init_157 : decode b_M_init 157 = .ok (.bipush 8, 2) := by decide +kernel
theorem d_M_init_159 : decode b_M_init 159 = .ok (.sipush 6561, 3) := by decide +kernel
theorem d_M_init_162 : decode b_M_init 162 = .ok (.iastore, 1) := by decide +kernel
theorem d_M_init_163 : decode b_M_init 163 = .ok (.putfield 46, 3) := by decide +kernel
theorem d_M_init_166 : decode b_M_init 166 = .ok (.aload_n 0, 1) := by decide +kernel
theorem d_M_init_167 : decode b_M_init 167 = .ok (.sipush 511, 3) := by decide +kernel
theorem d_M_init_170 : decode b_M_init 170 = .ok (.newarray .int, 2) := by decide +kernel
theorem d_M_init_172 : decode b_M_init 172 = .ok (.putfield 49, 3) := by decide +kernel
theorem d_M_init_175 : decode b_M_init 175 = .ok (.aload_n 0, 1) := by decide +kernel
theorem d_M_init_176 : decode b_M_init 176 = .ok (.sipush 511, 3) := by decide +kernel
theorem d_M_init_179 : decode b_M_init 179 = .ok (.newarray .int, 2) := by decide +kernel
theorem d_M_init_181 : decode b_M_init 181 = .ok (.putfield 52, 3) := by decide +kernel
theorem d_M_init_184 : decode b_M_init 184 = .ok (.aload_n 0, 1) := by decide +kernel
theorem d_M_init_185 : decode b_M_init 185 = .ok (.sipush 511, 3) := by decide +kernel
theorem d_M_init_188 : decode b_M_init 188 = .ok (.newarray .int, 2) := by decide +kernel
theorem d_M_init_190 : decode b_M_init 190 = .ok (.putfield 55, 3) := by decide +kernel
theorem d_M_init_193 : decode b_M_init 193 = .ok (.aload_n 0, 1) := by decide +kernel
theorem d_M_init_194 : decode b_M_init 194 = .ok (.sipush 520, 3) := by decide +kernel
theorem d_M_init_197 : decode b_M_init 197 = .ok (.newarray .int, 2) := by decide +kernel
theorem d_M_init_199 : decode b_M_init 199 = .ok (.putfield 58, 3) := by decide +kernel
theorem d_M_init_202 : decode b_M_init 202 = .ok (.aload_n 0, 1) := by decide +kernel
theorem d_M_init_203 : decode b_M_init 203 = .ok (.sipush 520, 3) := by decide +kernel
theorem d_M_init_206 : decode b_M_init 206 = .ok (.newarray .int, 2) := by decide +kernel
theorem d_M_init_208 : decode b_M_init 208 = .ok (.putfield 61, 3) := by decide +kernel
theorem d_M_init_211 : decode b_M_init 211 = .ok (.aload_n 0, 1) := by decide +kernel
theorem d_M_init_212 : decode b_M_init 212 = .ok (.bipush 64, 2) := by decide +kernel
theorem d_M_init_214 : decode b_M_init 214 = .ok (.newarray .int, 2) := by decide +kernel
theorem d_M_init_216 : decode b_M_init 216 = .ok (.putfield 64, 3) := by decide +kernel
theorem d_M_init_219 : decode b_M_init 219 = .ok (.aload_n 0, 1) := by decide +kernel
theorem d_M_init_220 : decode b_M_init 220 = .ok (.bipush 16, 2) := by decide +kernel
theorem d_M_init_222 : decode b_M_init 222 = .ok (.newarray .int, 2) := by decide +kernel
theorem d_M_init_224 : decode b_M_init 224 = .ok (.putfield 67, 3) := by decide +kernel
theorem d_M_init_227 : decode b_M_init 227 = .ok (.aload_n 0, 1) := by decide +kernel
theorem d_M_init_228 : decode b_M_init 228 = .ok (.bipush 16, 2) := by decide +kernel
theorem d_M_init_230 : decode b_M_init 230 = .ok (.newarray .int, 2) := by decide +kernel
theorem d_M_init_232 : decode b_M_init 232 = .ok (.putfield 70, 3) := by decide +kernel
theorem d_M_init_235 : decode b_M_init 235 = .ok (.aload_n 0, 1) := by decide +kernel
theorem d_M_init_236 : decode b_M_init 236 = .ok (.bipush 16, 2) := by decide +kernel
theorem d_M_init_238 : decode b_M_init 238 = .ok (.newarray .int, 2) := by decide +kernel
theorem d_M_init_240 : decode b_M_init 240 = .ok (.putfield 73, 3) := by decide +kernel
theorem d_M_init_243 : decode b_M_init 243 = .ok (.aload_n 0, 1) := by decide +kernel
theorem d_M_init_244 : decode b_M_init 244 = .ok (.iconst 1, 1) := by decide +kernel
theorem d_M_init_245 : decode b_M_init 245 = .ok (.iload_n 1, 1) := by decide +kernel
theorem d_M_init_246 : decode b_M_init 246 = .ok (.iconst 1, 1) := by decide +kernel
theorem d_M_init_247 : decode b_M_init 247 = .ok (.isub, 1) := by decide +kernel
theorem d_M_init_248 : decode b_M_init 248 = .ok (.bipush 7, 2) := by decide +kernel
theorem d_M_init_250 : decode b_M_init 250 = .ok (.iand, 1) := by decide +kernel
theorem d_M_init_251 : decode b_M_init 251 = .ok (.iadd, 1) := by decide +kernel
theorem d_M_init_252 : decode b_M_init 252 = .ok (.putfield 76, 3) := by decide +kernel
theorem d_M_init_255 : decode b_M_init 255 = .ok (.aload_n 0, 1) := by decide +kernel
theorem d_M_init_256 : decode b_M_init 256 = .ok (.invokevirtual 80, 3) := by decide +kernel
theorem d_M_init_259 : decode b_M_init 259 = .ok (.return_, 1) := by decide +kernel
theorem d_M_thrown_0 : decode b_M_thrown 0 = .ok (.aload_n 0, 1) := by decide +kernel
theorem d_M_thrown_1 : decode b_M_thrown 1 = .ok (.getfield 83, 3) := by decide +kernel
theorem d_M_thrown_4 : decode b_M_thrown 4 = .ok (.ireturn, 1) := by decide +kernel
theorem d_M_fail_0 : decode b_M_fail 0 = .ok (.aload_n 0, 1) := by decide +kernel
theorem d_M_fail_1 : decode b_M_fail 1 = .ok (.iload_n 1, 1) := by decide +kernel
theorem d_M_fail_2 : decode b_M_fail 2 = .ok (.putfield 83, 3) := by decide +kernel
theorem d_M_fail_5 : decode b_M_fail 5 = .ok (.iconst 0, 1) := by decide +kernel
theorem d_M_fail_6 : decode b_M_fail 6 = .ok (.ireturn, 1) := by decide +kernel
theorem d_M_within_0 : decode b_M_within 0 = .ok (.iload_n 0, 1) := by decide +kernel
theorem d_M_within_1 : decode b_M_within 1 = .ok (.iload_n 1, 1) := by decide +kernel
theorem d_M_within_2 : decode b_M_within 2 = .ok (.if_icmp .lt 12, 3) := by decide +kernel
theorem d_M_within_5 : decode b_M_within 5 = .ok (.iload_n 0, 1) := by decide +kernel
theorem d_M_within_6 : decode b_M_within 6 = .ok (.iload_n 2, 1) := by decide +kernel
theorem d_M_within_7 : decode b_M_within 7 = .ok (.if_icmp .gt 7, 3) := by decide +kernel
theorem d_M_within_10 : decode b_M_within 10 = .ok (.iconst 1, 1) := by decide +kernel
theorem d_M_within_11 : decode b_M_within 11 = .ok (.goto 4, 3) := by decide +kernel
theorem d_M_within_14 : decode b_M_within 14 = .ok (.iconst 0, 1) := by decide +kernel
theorem d_M_within_15 : decode b_M_within 15 = .ok (.ireturn, 1) := by decide +kernel
theorem d_M_isWord_0 : decode b_M_isWord 0 = .ok (.iload_n 1, 1) := by decide +kernel
theorem d_M_isWord_1 : decode b_M_isWord 1 = .ok (.iconst 0, 1) := by decide +kernel
theorem d_M_isWord_2 : decode b_M_isWord 2 = .ok (.iconst 1, 1) := by decide +kernel
theorem d_M_isWord_3 : decode b_M_isWord 3 = .ok (.aload_n 0, 1) := by decide +kernel
theorem d_M_isWord_4 : decode b_M_isWord 4 = .ok (.getfield 76, 3) := by decide +kernel
theorem d_M_isWord_7 : decode b_M_isWord 7 = .ok (.ishl, 1) := by decide +kernel
theorem d_M_isWord_8 : decode b_M_isWord 8 = .ok (.iconst 1, 1) := by decide +kernel
theorem d_M_isWord_9 : decode b_M_isWord 9 = .ok (.isub, 1) := by decide +kernel
theorem d_M_isWord_10 : decode b_M_isWord 10 = .ok (.invokestatic 86, 3) := by decide +kernel
theorem d_M_isWord_13 : decode b_M_isWord 13 = .ok (.ireturn, 1) := by decide +kernel
theorem d_M_fits_0 : decode b_M_fits 0 = .ok (.iload_n 1, 1) := by decide +kernel
theorem d_M_fits_1 : decode b_M_fits 1 = .ok (.aload_n 0, 1) := by decide +kernel
theorem d_M_fits_2 : decode b_M_fits 2 = .ok (.getfield 7, 3) := by decide +kernel
theorem d_M_fits_5 : decode b_M_fits 5 = .ok (.iload_n 2, 1) := by decide +kernel
theorem d_M_fits_6 : decode b_M_fits 6 = .ok (.iaload, 1) := by decide +kernel
theorem d_M_fits_7 : decode b_M_fits 7 = .ok (.iand, 1) := by decide +kernel
theorem d_M_fits_8 : decode b_M_fits 8 = .ok (.aload_n 0, 1) := by decide +kernel
theorem d_M_fits_9 : decode b_M_fits 9 = .ok (.getfield 13, 3) := by decide +kernel
theorem d_M_fits_12 : decode b_M_fits 12 = .ok (.iload_n 2, 1) := by decide +kernel
theorem d_M_fits_13 : decode b_M_fits 13 = .ok (.iaload, 1) := by decide +kernel
theorem d_M_fits_14 : decode b_M_fits 14 = .ok (.if_icmp .ne 7, 3) := by decide +kernel
theorem d_M_fits_17 : decode b_M_fits 17 = .ok (.iconst 1, 1) := by decide +kernel
theorem d_M_fits_18 : decode b_M_fits 18 = .ok (.goto 4, 3) := by decide +kernel
theorem d_M_fits_21 : decode b_M_fits 21 = .ok (.iconst 0, 1) := by decide +kernel
theorem d_M_fits_22 : decode b_M_fits 22 = .ok (.ireturn, 1) := by decide +kernel
theorem d_M_makeList_0 : decode b_M_makeList 0 = .ok (.iconst 0, 1) := by decide +kernel
theorem d_M_makeList_1 : decode b_M_makeList 1 = .ok (.istore_n 2, 1) := by decide +kernel
theorem d_M_makeList_2 : decode b_M_makeList 2 = .ok (.iconst 1, 1) := by decide +kernel
theorem d_M_makeList_3 : decode b_M_makeList 3 = .ok (.istore_n 3, 1) := by decide +kernel
theorem d_M_makeList_4 : decode b_M_makeList 4 = .ok (.iconst 0, 1) := by decide +kernel
theorem d_M_makeList_5 : decode b_M_makeList 5 = .ok (.istore 4, 2) := by decide +kernel
theorem d_M_makeList_7 : decode b_M_makeList 7 = .ok (.iload 4, 2) := by decide +kernel
theorem d_M_makeList_9 : decode b_M_makeList 9 = .ok (.aload_n 0, 1) := by decide +kernel
theorem d_M_makeList_10 : decode b_M_makeList 10 = .ok (.getfield 90, 3) := by decide +kernel
theorem d_M_makeList_13 : decode b_M_makeList 13 = .ok (.if_icmp .ge 55, 3) := by decide +kernel
theorem d_M_makeList_16 : decode b_M_makeList 16 = .ok (.iload_n 3, 1) := by decide +kernel
theorem d_M_makeList_17 : decode b_M_makeList 17 = .ok (.ifCond .eq 51, 3) := by decide +kernel
theorem d_M_makeList_20 : decode b_M_makeList 20 = .ok (.aload_n 0, 1) := by decide +kernel
theorem d_M_makeList_21 : decode b_M_makeList 21 = .ok (.iload_n 1, 1) := by decide +kernel
theorem d_M_makeList_22 : decode b_M_makeList 22 = .ok (.iload 4, 2) := by decide +kernel
theorem d_M_makeList_24 : decode b_M_makeList 24 = .ok (.invokevirtual 93, 3) := by decide +kernel
theorem d_M_makeList_27 : decode b_M_makeList 27 = .ok (.ifCond .eq 35, 3) := by decide +kernel
theorem d_M_makeList_30 : decode b_M_makeList 30 = .ok (.aload_n 0, 1) := by decide +kernel
theorem d_M_makeList_31 : decode b_M_makeList 31 = .ok (.getfield 28, 3) := by decide +kernel
theorem d_M_makeList_34 : decode b_M_makeList 34 = .ok (.bipush 14, 2) := by decide +kernel
theorem d_M_makeList_36 : decode b_M_makeList 36 = .ok (.iload_n 1, 1) := by decide +kernel
theorem d_M_makeList_37 : decode b_M_makeList 37 = .ok (.imul, 1) := by decide +kernel
theorem d_M_makeList_38 : decode b_M_makeList 38 = .ok (.iload_n 2, 1) := by decide +kernel
theorem d_M_makeList_39 : decode b_M_makeList 39 = .ok (.iadd, 1) := by decide +kernel
theorem d_M_makeList_40 : decode b_M_makeList 40 = .ok (.iload 4, 2) := by decide +kernel
theorem d_M_makeList_42 : decode b_M_makeList 42 = .ok (.iastore, 1) := by decide +kernel
theorem d_M_makeList_43 : decode b_M_makeList 43 = .ok (.iinc 2 1, 3) := by decide +kernel
theorem d_M_makeList_46 : decode b_M_makeList 46 = .ok (.aload_n 0, 1) := by decide +kernel
theorem d_M_makeList_47 : decode b_M_makeList 47 = .ok (.getfield 19, 3) := by decide +kernel
theorem d_M_makeList_50 : decode b_M_makeList 50 = .ok (.iload 4, 2) := by decide +kernel
theorem d_M_makeList_52 : decode b_M_makeList 52 = .ok (.iaload, 1) := by decide +kernel
theorem d_M_makeList_53 : decode b_M_makeList 53 = .ok (.ifCond .lt 7, 3) := by decide +kernel
theorem d_M_makeList_56 : decode b_M_makeList 56 = .ok (.iconst 1, 1) := by decide +kernel
theorem d_M_makeList_57 : decode b_M_makeList 57 = .ok (.goto 4, 3) := by decide +kernel
theorem d_M_makeList_60 : decode b_M_makeList 60 = .ok (.iconst 0, 1) := by decide +kernel
theorem d_M_makeList_61 : decode b_M_makeList 61 = .ok (.istore_n 3, 1) := by decide +kernel
theorem d_M_makeList_62 : decode b_M_makeList 62 = .ok (.iinc 4 1, 3) := by decide +kernel
theorem d_M_makeList_65 : decode b_M_makeList 65 = .ok (.goto (-58), 3) := by decide +kernel
theorem d_M_makeList_68 : decode b_M_makeList 68 = .ok (.aload_n 0, 1) := by decide +kernel
theorem d_M_makeList_69 : decode b_M_makeList 69 = .ok (.getfield 25, 3) := by decide +kernel
theorem d_M_makeList_72 : decode b_M_makeList 72 = .ok (.iload_n 1, 1) := by decide +kernel
theorem d_M_makeList_73 : decode b_M_makeList 73 = .ok (.iload_n 2, 1) := by decide +kernel
theorem d_M_makeList_74 : decode b_M_makeList 74 = .ok (.iastore, 1) := by decide +kernel
theorem d_M_makeList_75 : decode b_M_makeList 75 = .ok (.return_, 1) := by decide +kernel
theorem d_M_isSameList_0 : decode b_M_isSameList 0 = .ok (.aload_n 0, 1) := by decide +kernel
theorem d_M_isSameList_1 : decode b_M_isSameList 1 = .ok (.getfield 25, 3) := by decide +kernel
theorem d_M_isSameList_4 : decode b_M_isSameList 4 = .ok (.iload_n 1, 1) := by decide +kernel
theorem d_M_isSameList_5 : decode b_M_isSameList 5 = .ok (.iaload, 1) := by decide +kernel
theorem d_M_isSameList_6 : decode b_M_isSameList 6 = .ok (.aload_n 0, 1) := by decide +kernel
theorem d_M_isSameList_7 : decode b_M_isSameList 7 = .ok (.getfield 25, 3) := by decide +kernel
theorem d_M_isSameList_10 : decode b_M_isSameList 10 = .ok (.iload_n 2, 1) := by decide +kernel
theorem d_M_isSameList_11 : decode b_M_isSameList 11 = .ok (.iaload, 1) := by decide +kernel
theorem d_M_isSameList_12 : decode b_M_isSameList 12 = .ok (.if_icmp .ne 7, 3) := by decide +kernel
theorem d_M_isSameList_15 : decode b_M_isSameList 15 = .ok (.iconst 1, 1) := by decide +kernel
theorem d_M_isSameList_16 : decode b_M_isSameList 16 = .ok (.goto 4, 3) := by decide +kernel
theorem d_M_isSameList_19 : decode b_M_isSameList 19 = .ok (.iconst 0, 1) := by decide +kernel
theorem d_M_isSameList_20 : decode b_M_isSameList 20 = .ok (.istore_n 3, 1) := by decide +kernel
theorem d_M_isSameList_21 : decode b_M_isSameList 21 = .ok (.iconst 0, 1) := by decide +kernel
theorem d_M_isSameList_22 : decode b_M_isSameList 22 = .ok (.istore 4, 2) := by decide +kernel
theorem d_M_isSameList_24 : decode b_M_isSameList 24 = .ok (.iload_n 3, 1) := by decide +kernel
theorem d_M_isSameList_25 : decode b_M_isSameList 25 = .ok (.ifCond .eq 53, 3) := by decide +kernel
theorem d_M_isSameList_28 : decode b_M_isSameList 28 = .ok (.iload 4, 2) := by decide +kernel
theorem d_M_isSameList_30 : decode b_M_isSameList 30 = .ok (.aload_n 0, 1) := by decide +kernel
theorem d_M_isSameList_31 : decode b_M_isSameList 31 = .ok (.getfield 25, 3) := by decide +kernel
theorem d_M_isSameList_34 : decode b_M_isSameList 34 = .ok (.iload_n 1, 1) := by decide +kernel
theorem d_M_isSameList_35 : decode b_M_isSameList 35 = .ok (.iaload, 1) := by decide +kernel
theorem d_M_isSameList_36 : decode b_M_isSameList 36 = .ok (.if_icmp .ge 42, 3) := by decide +kernel
theorem d_M_isSameList_39 : decode b_M_isSameList 39 = .ok (.aload_n 0, 1) := by decide +kernel
theorem d_M_isSameList_40 : decode b_M_isSameList 40 = .ok (.getfield 28, 3) := by decide +kernel
theorem d_M_isSameList_43 : decode b_M_isSameList 43 = .ok (.bipush 14, 2) := by decide +kernel
theorem d_M_isSameList_45 : decode b_M_isSameList 45 = .ok (.iload_n 1, 1) := by decide +kernel
theorem d_M_isSameList_46 : decode b_M_isSameList 46 = .ok (.imul, 1) := by decide +kernel
theorem d_M_isSameList_47 : decode b_M_isSameList 47 = .ok (.iload 4, 2) := by decide +kernel
theorem d_M_isSameList_49 : decode b_M_isSameList 49 = .ok (.iadd, 1) := by decide +kernel
theorem d_M_isSameList_50 : decode b_M_isSameList 50 = .ok (.iaload, 1) := by decide +kernel
theorem d_M_isSameList_51 : decode b_M_isSameList 51 = .ok (.aload_n 0, 1) := by decide +kernel
theorem d_M_isSameList_52 : decode b_M_isSameList 52 = .ok (.getfield 28, 3) := by decide +kernel
theorem d_M_isSameList_55 : decode b_M_isSameList 55 = .ok (.bipush 14, 2) := by decide +kernel
theorem d_M_isSameList_57 : decode b_M_isSameList 57 = .ok (.iload_n 2, 1) := by decide +kernel
theorem d_M_isSameList_58 : decode b_M_isSameList 58 = .ok (.imul, 1) := by decide +kernel
theorem d_M_isSameList_59 : decode b_M_isSameList 59 = .ok (.iload 4, 2) := by decide +kernel
theorem d_M_isSameList_61 : decode b_M_isSameList 61 = .ok (.iadd, 1) := by decide +kernel
theorem d_M_isSameList_62 : decode b_M_isSameList 62 = .ok (.iaload, 1) := by decide +kernel
theorem d_M_isSameList_63 : decode b_M_isSameList 63 = .ok (.if_icmp .ne 7, 3) := by decide +kernel
theorem d_M_isSameList_66 : decode b_M_isSameList 66 = .ok (.iconst 1, 1) := by decide +kernel
theorem d_M_isSameList_67 : decode b_M_isSameList 67 = .ok (.goto 4, 3) := by decide +kernel
theorem d_M_isSameList_70 : decode b_M_isSameList 70 = .ok (.iconst 0, 1) := by decide +kernel
theorem d_M_isSameList_71 : decode b_M_isSameList 71 = .ok (.istore_n 3, 1) := by decide +kernel
theorem d_M_isSameList_72 : decode b_M_isSameList 72 = .ok (.iinc 4 1, 3) := by decide +kernel
theorem d_M_isSameList_75 : decode b_M_isSameList 75 = .ok (.goto (-51), 3) := by decide +kernel
theorem d_M_isSameList_78 : decode b_M_isSameList 78 = .ok (.iload_n 3, 1) := by decide +kernel
theorem d_M_isSameList_79 : decode b_M_isSameList 79 = .ok (.ireturn, 1) := by decide +kernel
theorem d_M_makeLists_0 : decode b_M_makeLists 0 = .ok (.iconst 0, 1) := by decide +kernel
theorem d_M_makeLists_1 : decode b_M_makeLists 1 = .ok (.istore_n 1, 1) := by decide +kernel
theorem d_M_makeLists_2 : decode b_M_makeLists 2 = .ok (.iload_n 1, 1) := by decide +kernel
theorem d_M_makeLists_3 : decode b_M_makeLists 3 = .ok (.iconst 1, 1) := by decide +kernel
theorem d_M_makeLists_4 : decode b_M_makeLists 4 = .ok (.aload_n 0, 1) := by decide +kernel
theorem d_M_makeLists_5 : decode b_M_makeLists 5 = .ok (.getfield 76, 3) := by decide +kernel
theorem d_M_makeLists_8 : decode b_M_makeLists 8 = .ok (.ishl, 1) := by decide +kernel
theorem d_M_makeLists_9 : decode b_M_makeLists 9 = .ok (.if_icmp .ge 38, 3) := by decide +kernel
theorem d_M_makeLists_12 : decode b_M_makeLists 12 = .ok (.aload_n 0, 1) := by decide +kernel
theorem d_M_makeLists_13 : decode b_M_makeLists 13 = .ok (.iload_n 1, 1) := by decide +kernel
theorem d_M_makeLists_14 : decode b_M_makeLists 14 = .ok (.invokevirtual 97, 3) := by decide +kernel
theorem d_M_makeLists_17 : decode b_M_makeLists 17 = .ok (.iconst 0, 1) := by decide +kernel
theorem d_M_makeLists_18 : decode b_M_makeLists 18 = .ok (.istore_n 2, 1) := by decide +kernel
theorem d_M_makeLists_19 : decode b_M_makeLists 19 = .ok (.aload_n 0, 1) := by decide +kernel
theorem d_M_makeLists_20 : decode b_M_makeLists 20 = .ok (.iload_n 2, 1) := by decide +kernel
theorem d_M_makeLists_21 : decode b_M_makeLists 21 = .ok (.iload_n 1, 1) := by decide +kernel
theorem d_M_makeLists_22 : decode b_M_makeLists 22 = .ok (.invokevirtual 101, 3) := by decide +kernel
theorem d_M_makeLists_25 : decode b_M_makeLists 25 = .ok (.ifCond .ne 9, 3) := by decide +kernel
theorem d_M_makeLists_28 : decode b_M_makeLists 28 = .ok (.iinc 2 1, 3) := by decide +kernel
theorem d_M_makeLists_31 : decode b_M_makeLists 31 = .ok (.goto (-12), 3) := by decide +kernel
theorem d_M_makeLists_34 : decode b_M_makeLists 34 = .ok (.aload_n 0, 1) := by decide +kernel
theorem d_M_makeLists_35 : decode b_M_makeLists 35 = .ok (.getfield 22, 3) := by decide +kernel
theorem d_M_makeLists_38 : decode b_M_makeLists 38 = .ok (.iload_n 1, 1) := by decide +kernel
theorem d_M_makeLists_39 : decode b_M_makeLists 39 = .ok (.iload_n 2, 1) := by decide +kernel
theorem d_M_makeLists_40 : decode b_M_makeLists 40 = .ok (.iastore, 1) := by decide +kernel
theorem d_M_makeLists_41 : decode b_M_makeLists 41 = .ok (.iinc 1 1, 3) := by decide +kernel
theorem d_M_makeLists_44 : decode b_M_makeLists 44 = .ok (.goto (-42), 3) := by decide +kernel
theorem d_M_makeLists_47 : decode b_M_makeLists 47 = .ok (.return_, 1) := by decide +kernel
theorem d_M_digit_0 : decode b_M_digit 0 = .ok (.iload_n 1, 1) := by decide +kernel
theorem d_M_digit_1 : decode b_M_digit 1 = .ok (.aload_n 0, 1) := by decide +kernel
theorem d_M_digit_2 : decode b_M_digit 2 = .ok (.getfield 46, 3) := by decide +kernel
theorem d_M_digit_5 : decode b_M_digit 5 = .ok (.iload_n 2, 1) := by decide +kernel
theorem d_M_digit_6 : decode b_M_digit 6 = .ok (.iaload, 1) := by decide +kernel
theorem d_M_digit_7 : decode b_M_digit 7 = .ok (.idiv, 1) := by decide +kernel
theorem d_M_digit_8 : decode b_M_digit 8 = .ok (.iconst 3, 1) := by decide +kernel
theorem d_M_digit_9 : decode b_M_digit 9 = .ok (.irem, 1) := by decide +kernel
theorem d_M_digit_10 : decode b_M_digit 10 = .ok (.ireturn, 1) := by decide +kernel
theorem d_M_half_0 : decode b_M_half 0 = .ok (.iload_n 1, 1) := by decide +kernel
theorem d_M_half_1 : decode b_M_half 1 = .ok (.iconst 2, 1) := by decide +kernel
theorem d_M_half_2 : decode b_M_half 2 = .ok (.iload_n 3, 1) := by decide +kernel
theorem d_M_half_3 : decode b_M_half 3 = .ok (.isub, 1) := by decide +kernel
theorem d_M_half_4 : decode b_M_half 4 = .ok (.aload_n 0, 1) := by decide +kernel
theorem d_M_half_5 : decode b_M_half 5 = .ok (.getfield 46, 3) := by decide +kernel
theorem d_M_half_8 : decode b_M_half 8 = .ok (.iload_n 2, 1) := by decide +kernel
theorem d_M_half_9 : decode b_M_half 9 = .ok (.iaload, 1) := by decide +kernel
theorem d_M_half_10 : decode b_M_half 10 = .ok (.imul, 1) := by decide +kernel
theorem d_M_half_11 : decode b_M_half 11 = .ok (.isub, 1) := by decide +kernel
theorem d_M_half_12 : decode b_M_half 12 = .ok (.ireturn, 1) := by decide +kernel
theorem d_M_hasFree_0 : decode b_M_hasFree 0 = .ok (.iconst 0, 1) := by decide +kernel
theorem d_M_hasFree_1 : decode b_M_hasFree 1 = .ok (.istore_n 2, 1) := by decide +kernel
theorem d_M_hasFree_2 : decode b_M_hasFree 2 = .ok (.iload_n 2, 1) := by decide +kernel
theorem d_M_hasFree_3 : decode b_M_hasFree 3 = .ok (.aload_n 0, 1) := by decide +kernel
theorem d_M_hasFree_4 : decode b_M_hasFree 4 = .ok (.getfield 76, 3) := by decide +kernel
theorem d_M_hasFree_7 : decode b_M_hasFree 7 = .ok (.if_icmp .ge 21, 3) := by decide +kernel
theorem d_M_hasFree_10 : decode b_M_hasFree 10 = .ok (.aload_n 0, 1) := by decide +kernel
theorem d_M_hasFree_11 : decode b_M_hasFree 11 = .ok (.iload_n 1, 1) := by decide +kernel
theorem d_M_hasFree_12 : decode b_M_hasFree 12 = .ok (.iload_n 2, 1) := by decide +kernel
theorem d_M_hasFree_13 : decode b_M_hasFree 13 = .ok (.invokevirtual 104, 3) := by decide +kernel
theorem d_M_hasFree_16 : decode b_M_hasFree 16 = .ok (.iconst 2, 1) := by decide +kernel
theorem d_M_hasFree_17 : decode b_M_hasFree 17 = .ok (.if_icmp .ne 5, 3) := by decide +kernel
theorem d_M_hasFree_20 : decode b_M_hasFree 20 = .ok (.iconst 1, 1) := by decide +kernel
theorem d_M_hasFree_21 : decode b_M_hasFree 21 = .ok (.ireturn, 1) := by decide +kernel
theorem d_M_hasFree_22 : decode b_M_hasFree 22 = .ok (.iinc 2 1, 3) := by decide +kernel
theorem d_M_hasFree_25 : decode b_M_hasFree 25 = .ok (.goto (-23), 3) := by decide +kernel
theorem d_M_hasFree_28 : decode b_M_hasFree 28 = .ok (.iconst 0, 1) := by decide +kernel
theorem d_M_hasFree_29 : decode b_M_hasFree 29 = .ok (.ireturn, 1) := by decide +kernel
theorem d_M_onlyWord_0 : decode b_M_onlyWord 0 = .ok (.iconst 0, 1) := by decide +kernel
theorem d_M_onlyWord_1 : decode b_M_onlyWord 1 = .ok (.istore_n 2, 1) := by decide +kernel
theorem d_M_onlyWord_2 : decode b_M_onlyWord 2 = .ok (.iconst 0, 1) := by decide +kernel
theorem d_M_onlyWord_3 : decode b_M_onlyWord 3 = .ok (.istore_n 3, 1) := by decide +kernel
theorem d_M_onlyWord_4 : decode b_M_onlyWord 4 = .ok (.iload_n 3, 1) := by decide +kernel
theorem d_M_onlyWord_5 : decode b_M_onlyWord 5 = .ok (.aload_n 0, 1) := by decide +kernel
theorem d_M_onlyWord_6 : decode b_M_onlyWord 6 = .ok (.getfield 76, 3) := by decide +kernel
theorem d_M_onlyWord_9 : decode b_M_onlyWord 9 = .ok (.if_icmp .ge 20, 3) := by decide +kernel
theorem d_M_onlyWord_12 : decode b_M_onlyWord 12 = .ok (.iload_n 2, 1) := by decide +kernel
theorem d_M_onlyWord_13 : decode b_M_onlyWord 13 = .ok (.aload_n 0, 1) := by decide +kernel
theorem d_M_onlyWord_14 : decode b_M_onlyWord 14 = .ok (.iload_n 1, 1) := by decide +kernel
theorem d_M_onlyWord_15 : decode b_M_onlyWord 15 = .ok (.iload_n 3, 1) := by decide +kernel
theorem d_M_onlyWord_16 : decode b_M_onlyWord 16 = .ok (.invokevirtual 104, 3) := by decide +kernel
theorem d_M_onlyWord_19 : decode b_M_onlyWord 19 = .ok (.iload_n 3, 1) := by decide +kernel
theorem d_M_onlyWord_20 : decode b_M_onlyWord 20 = .ok (.ishl, 1) := by decide +kernel
theorem d_M_onlyWord_21 : decode b_M_onlyWord 21 = .ok (.ior, 1) := by decide +kernel
theorem d_M_onlyWord_22 : decode b_M_onlyWord 22 = .ok (.istore_n 2, 1) := by decide +kernel
theorem d_M_onlyWord_23 : decode b_M_onlyWord 23 = .ok (.iinc 3 1, 3) := by decide +kernel
theorem d_M_onlyWord_26 : decode b_M_onlyWord 26 = .ok (.goto (-22), 3) := by decide +kernel
theorem d_M_onlyWord_29 : decode b_M_onlyWord 29 = .ok (.iload_n 2, 1) := by decide +kernel
theorem d_M_onlyWord_30 : decode b_M_onlyWord 30 = .ok (.ireturn, 1) := by decide +kernel
theorem d_M_firstFree_0 : decode b_M_firstFree 0 = .ok (.iconst 0, 1) := by decide +kernel
theorem d_M_firstFree_1 : decode b_M_firstFree 1 = .ok (.istore_n 2, 1) := by decide +kernel
theorem d_M_firstFree_2 : decode b_M_firstFree 2 = .ok (.aload_n 0, 1) := by decide +kernel
theorem d_M_firstFree_3 : decode b_M_firstFree 3 = .ok (.iload_n 1, 1) := by decide +kernel
theorem d_M_firstFree_4 : decode b_M_firstFree 4 = .ok (.iload_n 2, 1) := by decide +kernel
theorem d_M_firstFree_5 : decode b_M_firstFree 5 = .ok (.invokevirtual 104, 3) := by decide +kernel
theorem d_M_firstFree_8 : decode b_M_firstFree 8 = .ok (.iconst 2, 1) := by decide +kernel
theorem d_M_firstFree_9 : decode b_M_firstFree 9 = .ok (.if_icmp .eq 9, 3) := by decide +kernel
theorem d_M_firstFree_12 : decode b_M_firstFree 12 = .ok (.iinc 2 1, 3) := by decide +kernel
theorem d_M_firstFree_15 : decode b_M_firstFree 15 = .ok (.goto (-13), 3) := by decide +kernel
theorem d_M_firstFree_18 : decode b_M_firstFree 18 = .ok (.iload_n 2, 1) := by decide +kernel
theorem d_M_firstFree_19 : decode b_M_firstFree 19 = .ok (.ireturn, 1) := by decide +kernel
theorem d_M_choose_0 : decode b_M_choose 0 = .ok (.iconst (-1), 1) := by decide +kernel
theorem d_M_choose_1 : decode b_M_choose 1 = .ok (.istore_n 3, 1) := by decide +kernel
theorem d_M_choose_2 : decode b_M_choose 2 = .ok (.iconst 0, 1) := by decide +kernel
theorem d_M_choose_3 : decode b_M_choose 3 = .ok (.istore 4, 2) := by decide +kernel
theorem d_M_choose_5 : decode b_M_choose 5 = .ok (.iload 4, 2) := by decide +kernel
theorem d_M_choose_7 : decode b_M_choose 7 = .ok (.aload_n 0, 1) := by decide +kernel
theorem d_M_choose_8 : decode b_M_choose 8 = .ok (.getfield 76, 3) := by decide +kernel
theorem d_M_choose_11 : decode b_M_choose 11 = .ok (.if_icmp .ge 209, 3) := by decide +kernel
theorem d_M_choose_14 : decode b_M_choose 14 = .ok (.aload_n 0, 1) := by decide +kernel
theorem d_M_choose_15 : decode b_M_choose 15 = .ok (.iload_n 2, 1) := by decide +kernel
theorem d_M_choose_16 : decode b_M_choose 16 = .ok (.iload 4, 2) := by decide +kernel
theorem d_M_choose_18 : decode b_M_choose 18 = .ok (.invokevirtual 104, 3) := by decide +kernel
theorem d_M_choose_21 : decode b_M_choose 21 = .ok (.iconst 2, 1) := by decide +kernel
theorem d_M_choose_22 : decode b_M_choose 22 = .ok (.if_icmp .ne 192, 3) := by decide +kernel
theorem d_M_choose_25 : decode b_M_choose 25 = .ok (.sipush 6561, 3) := by decide +kernel
theorem d_M_choose_28 : decode b_M_choose 28 = .ok (.iload_n 1, 1) := by decide +kernel
theorem d_M_choose_29 : decode b_M_choose 29 = .ok (.imul, 1) := by decide +kernel
theorem d_M_choose_30 : decode b_M_choose 30 = .ok (.aload_n 0, 1) := by decide +kernel
theorem d_M_choose_31 : decode b_M_choose 31 = .ok (.iload_n 2, 1) := by decide +kernel
theorem d_M_choose_32 : decode b_M_choose 32 = .ok (.iload 4, 2) := by decide +kernel
theorem d_M_choose_34 : decode b_M_choose 34 = .ok (.iconst 0, 1) := by decide +kernel
theorem d_M_choose_35 : decode b_M_choose 35 = .ok (.invokevirtual 108, 3) := by decide +kernel
theorem d_M_choose_38 : decode b_M_choose 38 = .ok (.iadd, 1) := by decide +kernel
theorem d_M_choose_39 : decode b_M_choose 39 = .ok (.istore 5, 2) := by decide +kernel
theorem d_M_choose_41 : decode b_M_choose 41 = .ok (.sipush 6561, 3) := by decide +kernel
theorem d_M_choose_44 : decode b_M_choose 44 = .ok (.iload_n 1, 1) := by decide +kernel
theorem d_M_choose_45 : decode b_M_choose 45 = .ok (.imul, 1) := by decide +kernel
theorem d_M_choose_46 : decode b_M_choose 46 = .ok (.aload_n 0, 1) := by decide +kernel
theorem d_M_choose_47 : decode b_M_choose 47 = .ok (.iload_n 2, 1) := by decide +kernel
theorem d_M_choose_48 : decode b_M_choose 48 = .ok (.iload 4, 2) := by decide +kernel
theorem d_M_choose_50 : decode b_M_choose 50 = .ok (.iconst 1, 1) := by decide +kernel
theorem d_M_choose_51 : decode b_M_choose 51 = .ok (.invokevirtual 108, 3) := by decide +kernel
theorem d_M_choose_54 : decode b_M_choose 54 = .ok (.iadd, 1) := by decide +kernel
theorem d_M_choose_55 : decode b_M_choose 55 = .ok (.istore 6, 2) := by decide +kernel
theorem d_M_choose_57 : decode b_M_choose 57 = .ok (.iconst 1, 1) := by decide +kernel
theorem d_M_choose_58 : decode b_M_choose 58 = .ok (.aload_n 0, 1) := by decide +kernel
theorem d_M_choose_59 : decode b_M_choose 59 = .ok (.getfield 40, 3) := by decide +kernel
theorem d_M_choose_62 : decode b_M_choose 62 = .ok (.iload 5, 2) := by decide +kernel
theorem d_M_choose_64 : decode b_M_choose 64 = .ok (.iaload, 1) := by decide +kernel
theorem d_M_choose_65 : decode b_M_choose 65 = .ok (.aload_n 0, 1) := by decide +kernel
theorem d_M_choose_66 : decode b_M_choose 66 = .ok (.getfield 40, 3) := by decide +kernel
theorem d_M_choose_69 : decode b_M_choose 69 = .ok (.iload 6, 2) := by decide +kernel
theorem d_M_choose_71 : decode b_M_choose 71 = .ok (.iaload, 1) := by decide +kernel
theorem d_M_choose_72 : decode b_M_choose 72 = .ok (.if_icmp .le 13, 3) := by decide +kernel
theorem d_M_choose_75 : decode b_M_choose 75 = .ok (.aload_n 0, 1) := by decide +kernel
theorem d_M_choose_76 : decode b_M_choose 76 = .ok (.getfield 40, 3) := by decide +kernel
theorem d_M_choose_79 : decode b_M_choose 79 = .ok (.iload 5, 2) := by decide +kernel
theorem d_M_choose_81 : decode b_M_choose 81 = .ok (.iaload, 1) := by decide +kernel
theorem d_M_choose_82 : decode b_M_choose 82 = .ok (.goto 10, 3) := by decide +kernel
theorem d_M_choose_85 : decode b_M_choose 85 = .ok (.aload_n 0, 1) := by decide +kernel
theorem d_M_choose_86 : decode b_M_choose 86 = .ok (.getfield 40, 3) := by decide +kernel
theorem d_M_choose_89 : decode b_M_choose 89 = .ok (.iload 6, 2) := by decide +kernel
theorem d_M_choose_91 : decode b_M_choose 91 = .ok (.iaload, 1) := by decide +kernel
theorem d_M_choose_92 : decode b_M_choose 92 = .ok (.iadd, 1) := by decide +kernel
theorem d_M_choose_93 : decode b_M_choose 93 = .ok (.istore 7, 2) := by decide +kernel
theorem d_M_choose_95 : decode b_M_choose 95 = .ok (.aload_n 0, 1) := by decide +kernel
theorem d_M_choose_96 : decode b_M_choose 96 = .ok (.getfield 34, 3) := by decide +kernel
theorem d_M_choose_99 : decode b_M_choose 99 = .ok (.iload_n 2, 1) := by decide +kernel
theorem d_M_choose_100 : decode b_M_choose 100 = .ok (.iaload, 1) := by decide +kernel
theorem d_M_choose_101 : decode b_M_choose 101 = .ok (.aload_n 0, 1) := by decide +kernel
theorem d_M_choose_102 : decode b_M_choose 102 = .ok (.getfield 43, 3) := by decide +kernel
theorem d_M_choose_105 : decode b_M_choose 105 = .ok (.iload 5, 2) := by decide +kernel
theorem d_M_choose_107 : decode b_M_choose 107 = .ok (.iaload, 1) := by decide +kernel
theorem d_M_choose_108 : decode b_M_choose 108 = .ok (.iadd, 1) := by decide +kernel
theorem d_M_choose_109 : decode b_M_choose 109 = .ok (.aload_n 0, 1) := by decide +kernel
theorem d_M_choose_110 : decode b_M_choose 110 = .ok (.getfield 43, 3) := by decide +kernel
theorem d_M_choose_113 : decode b_M_choose 113 = .ok (.iload 6, 2) := by decide +kernel
theorem d_M_choose_115 : decode b_M_choose 115 = .ok (.iaload, 1) := by decide +kernel
theorem d_M_choose_116 : decode b_M_choose 116 = .ok (.iadd, 1) := by decide +kernel
theorem d_M_choose_117 : decode b_M_choose 117 = .ok (.istore 8, 2) := by decide +kernel
theorem d_M_choose_119 : decode b_M_choose 119 = .ok (.iload_n 3, 1) := by decide +kernel
theorem d_M_choose_120 : decode b_M_choose 120 = .ok (.ifCond .lt 51, 3) := by decide +kernel
theorem d_M_choose_123 : decode b_M_choose 123 = .ok (.iload_n 1, 1) := by decide +kernel
theorem d_M_choose_124 : decode b_M_choose 124 = .ok (.iconst 2, 1) := by decide +kernel
theorem d_M_choose_125 : decode b_M_choose 125 = .ok (.if_icmp .eq 46, 3) := by decide +kernel
theorem d_M_choose_128 : decode b_M_choose 128 = .ok (.iload_n 1, 1) := by decide +kernel
theorem d_M_choose_129 : decode b_M_choose 129 = .ok (.ifCond .ne 20, 3) := by decide +kernel
theorem d_M_choose_132 : decode b_M_choose 132 = .ok (.iload 7, 2) := by decide +kernel
theorem d_M_choose_134 : decode b_M_choose 134 = .ok (.aload_n 0, 1) := by decide +kernel
theorem d_M_choose_135 : decode b_M_choose 135 = .ok (.getfield 40, 3) := by decide +kernel
theorem d_M_choose_138 : decode b_M_choose 138 = .ok (.sipush 6561, 3) := by decide +kernel
theorem d_M_choose_141 : decode b_M_choose 141 = .ok (.iload_n 1, 1) := by decide +kernel
theorem d_M_choose_142 : decode b_M_choose 142 = .ok (.imul, 1) := by decide +kernel
theorem d_M_choose_143 : decode b_M_choose 143 = .ok (.iload_n 2, 1) := by decide +kernel
theorem d_M_choose_144 : decode b_M_choose 144 = .ok (.iadd, 1) := by decide +kernel
theorem d_M_choose_145 : decode b_M_choose 145 = .ok (.iaload, 1) := by decide +kernel
theorem d_M_choose_146 : decode b_M_choose 146 = .ok (.if_icmp .lt 25, 3) := by decide +kernel
theorem d_M_choose_149 : decode b_M_choose 149 = .ok (.iload_n 1, 1) := by decide +kernel
theorem d_M_choose_150 : decode b_M_choose 150 = .ok (.iconst 1, 1) := by decide +kernel
theorem d_M_choose_151 : decode b_M_choose 151 = .ok (.if_icmp .ne 24, 3) := by decide +kernel
theorem d_M_choose_154 : decode b_M_choose 154 = .ok (.iload 8, 2) := by decide +kernel
theorem d_M_choose_156 : decode b_M_choose 156 = .ok (.aload_n 0, 1) := by decide +kernel
theorem d_M_choose_157 : decode b_M_choose 157 = .ok (.getfield 43, 3) := by decide +kernel
theorem d_M_choose_160 : decode b_M_choose 160 = .ok (.sipush 6561, 3) := by decide +kernel
theorem d_M_choose_163 : decode b_M_choose 163 = .ok (.iload_n 1, 1) := by decide +kernel
theorem d_M_choose_164 : decode b_M_choose 164 = .ok (.imul, 1) := by decide +kernel
theorem d_M_choose_165 : decode b_M_choose 165 = .ok (.iload_n 2, 1) := by decide +kernel
theorem d_M_choose_166 : decode b_M_choose 166 = .ok (.iadd, 1) := by decide +kernel
theorem d_M_choose_167 : decode b_M_choose 167 = .ok (.iaload, 1) := by decide +kernel
theorem d_M_choose_168 : decode b_M_choose 168 = .ok (.if_icmp .ge 7, 3) := by decide +kernel
theorem d_M_choose_171 : decode b_M_choose 171 = .ok (.iconst 1, 1) := by decide +kernel
theorem d_M_choose_172 : decode b_M_choose 172 = .ok (.goto 4, 3) := by decide +kernel
theorem d_M_choose_175 : decode b_M_choose 175 = .ok (.iconst 0, 1) := by decide +kernel
theorem d_M_choose_176 : decode b_M_choose 176 = .ok (.istore 9, 2) := by decide +kernel
theorem d_M_choose_178 : decode b_M_choose 178 = .ok (.iload 9, 2) := by decide +kernel
theorem d_M_choose_180 : decode b_M_choose 180 = .ok (.ifCond .eq 34, 3) := by decide +kernel
theorem d_M_choose_183 : decode b_M_choose 183 = .ok (.iload 4, 2) := by decide +kernel

theorem d_M_crosses_0 : decode b_M_crosses 0 = .ok (.aload_n 0, 1) := by decide +kernel
theorem d_M_crosses_1 : decode b_M_crosses 1 = .ok (.iconst 0, 1) := by decide +kernel
theorem d_M_crosses_2 : decode b_M_crosses 2 = .ok (.putfield 83, 3) := by decide +kernel
theorem d_M_crosses_5 : decode b_M_crosses 5 = .ok (.iconst 0, 1) := by decide +kernel
theorem d_M_crosses_6 : decode b_M_crosses 6 = .ok (.istore_n 1, 1) := by decide +kernel
theorem d_M_crosses_7 : decode b_M_crosses 7 = .ok (.iconst 0, 1) := by decide +kernel
theorem d_M_crosses_8 : decode b_M_crosses 8 = .ok (.istore_n 2, 1) := by decide +kernel
theorem d_M_crosses_9 : decode b_M_crosses 9 = .ok (.iload_n 2, 1) := by decide +kernel
theorem d_M_crosses_10 : decode b_M_crosses 10 = .ok (.aload_n 0, 1) := by decide +kernel
theorem d_M_crosses_11 : decode b_M_crosses 11 = .ok (.getfield 90, 3) := by decide +kernel
theorem d_M_crosses_14 : decode b_M_crosses 14 = .ok (.if_icmp .ge 92, 3) := by decide +kernel
theorem d_M_crosses_17 : decode b_M_crosses 17 = .ok (.iconst 0, 1) := by decide +kernel
theorem d_M_crosses_18 : decode b_M_crosses 18 = .ok (.istore_n 3, 1) := by decide +kernel
theorem d_M_crosses_19 : decode b_M_crosses 19 = .ok (.iload_n 3, 1) := by decide +kernel
theorem d_M_crosses_20 : decode b_M_crosses 20 = .ok (.iload_n 2, 1) := by decide +kernel
theorem d_M_crosses_21 : decode b_M_crosses 21 = .ok (.if_icmp .ge 79, 3) := by decide +kernel
theorem d_M_crosses_24 : decode b_M_crosses 24 = .ok (.aload_n 0, 1) := by decide +kernel
theorem d_M_crosses_25 : decode b_M_crosses 25 = .ok (.getfield 13, 3) := by decide +kernel
theorem d_M_crosses_28 : decode b_M_crosses 28 = .ok (.iload_n 2, 1) := by decide +kernel
theorem d_M_crosses_29 : decode b_M_crosses 29 = .ok (.iaload, 1) := by decide +kernel
theorem d_M_crosses_30 : decode b_M_crosses 30 = .ok (.aload_n 0, 1) := by decide +kernel
theorem d_M_crosses_31 : decode b_M_crosses 31 = .ok (.getfield 13, 3) := by decide +kernel
theorem d_M_crosses_34 : decode b_M_crosses 34 = .ok (.iload_n 3, 1) := by decide +kernel
theorem d_M_crosses_35 : decode b_M_crosses 35 = .ok (.iaload, 1) := by decide +kernel
theorem d_M_crosses_36 : decode b_M_crosses 36 = .ok (.ixor, 1) := by decide +kernel
theorem d_M_crosses_37 : decode b_M_crosses 37 = .ok (.aload_n 0, 1) := by decide +kernel
theorem d_M_crosses_38 : decode b_M_crosses 38 = .ok (.getfield 7, 3) := by decide +kernel
theorem d_M_crosses_41 : decode b_M_crosses 41 = .ok (.iload_n 2, 1) := by decide +kernel
theorem d_M_crosses_42 : decode b_M_crosses 42 = .ok (.iaload, 1) := by decide +kernel
theorem d_M_crosses_43 : decode b_M_crosses 43 = .ok (.iand, 1) := by decide +kernel
theorem d_M_crosses_44 : decode b_M_crosses 44 = .ok (.aload_n 0, 1) := by decide +kernel
theorem d_M_crosses_45 : decode b_M_crosses 45 = .ok (.getfield 7, 3) := by decide +kernel
theorem d_M_crosses_48 : decode b_M_crosses 48 = .ok (.iload_n 3, 1) := by decide +kernel
theorem d_M_crosses_49 : decode b_M_crosses 49 = .ok (.iaload, 1) := by decide +kernel
theorem d_M_crosses_50 : decode b_M_crosses 50 = .ok (.iand, 1) := by decide +kernel
theorem d_M_crosses_51 : decode b_M_crosses 51 = .ok (.ifCond .ne 7, 3) := by decide +kernel
theorem d_M_crosses_54 : decode b_M_crosses 54 = .ok (.iconst 1, 1) := by decide +kernel
theorem d_M_crosses_55 : decode b_M_crosses 55 = .ok (.goto 4, 3) := by decide +kernel
theorem d_M_crosses_58 : decode b_M_crosses 58 = .ok (.iconst 0, 1) := by decide +kernel
theorem d_M_crosses_59 : decode b_M_crosses 59 = .ok (.istore 4, 2) := by decide +kernel
theorem d_M_crosses_61 : decode b_M_crosses 61 = .ok (.iload_n 1, 1) := by decide +kernel
theorem d_M_crosses_62 : decode b_M_crosses 62 = .ok (.ifCond .ne 26, 3) := by decide +kernel
theorem d_M_crosses_65 : decode b_M_crosses 65 = .ok (.iload 4, 2) := by decide +kernel
theorem d_M_crosses_67 : decode b_M_crosses 67 = .ok (.ifCond .eq 25, 3) := by decide +kernel
theorem d_M_crosses_70 : decode b_M_crosses 70 = .ok (.aload_n 0, 1) := by decide +kernel
theorem d_M_crosses_71 : decode b_M_crosses 71 = .ok (.iload_n 2, 1) := by decide +kernel
theorem d_M_crosses_72 : decode b_M_crosses 72 = .ok (.iload_n 3, 1) := by decide +kernel
theorem d_M_crosses_73 : decode b_M_crosses 73 = .ok (.invokevirtual 188, 3) := by decide +kernel
theorem d_M_crosses_76 : decode b_M_crosses 76 = .ok (.ifCond .ne 16, 3) := by decide +kernel
theorem d_M_crosses_79 : decode b_M_crosses 79 = .ok (.aload_n 0, 1) := by decide +kernel
theorem d_M_crosses_80 : decode b_M_crosses 80 = .ok (.iload_n 3, 1) := by decide +kernel
theorem d_M_crosses_81 : decode b_M_crosses 81 = .ok (.iload_n 2, 1) := by decide +kernel
theorem d_M_crosses_82 : decode b_M_crosses 82 = .ok (.invokevirtual 188, 3) := by decide +kernel
theorem d_M_crosses_85 : decode b_M_crosses 85 = .ok (.ifCond .ne 7, 3) := by decide +kernel
theorem d_M_crosses_88 : decode b_M_crosses 88 = .ok (.iconst 1, 1) := by decide +kernel
theorem d_M_crosses_89 : decode b_M_crosses 89 = .ok (.goto 4, 3) := by decide +kernel
theorem d_M_crosses_92 : decode b_M_crosses 92 = .ok (.iconst 0, 1) := by decide +kernel
theorem d_M_crosses_93 : decode b_M_crosses 93 = .ok (.istore_n 1, 1) := by decide +kernel
theorem d_M_crosses_94 : decode b_M_crosses 94 = .ok (.iinc 3 1, 3) := by decide +kernel
theorem d_M_crosses_97 : decode b_M_crosses 97 = .ok (.goto (-78), 3) := by decide +kernel
theorem d_M_crosses_100 : decode b_M_crosses 100 = .ok (.iinc 2 1, 3) := by decide +kernel
theorem d_M_crosses_103 : decode b_M_crosses 103 = .ok (.goto (-94), 3) := by decide +kernel
theorem d_M_crosses_106 : decode b_M_crosses 106 = .ok (.iload_n 1, 1) := by decide +kernel
theorem d_M_crosses_107 : decode b_M_crosses 107 = .ok (.ireturn, 1) := by decide +kernel
theorem d_M_count_0 : decode b_M_count 0 = .ok (.aload_n 0, 1) := by decide +kernel
theorem d_M_count_1 : decode b_M_count 1 = .ok (.iconst 0, 1) := by decide +kernel
theorem d_M_count_2 : decode b_M_count 2 = .ok (.putfield 83, 3) := by decide +kernel
theorem d_M_count_5 : decode b_M_count 5 = .ok (.iconst 0, 1) := by decide +kernel
theorem d_M_count_6 : decode b_M_count 6 = .ok (.istore_n 2, 1) := by decide +kernel
theorem d_M_count_7 : decode b_M_count 7 = .ok (.iload_n 1, 1) := by decide +kernel
theorem d_M_count_8 : decode b_M_count 8 = .ok (.tableswitch 172 0 10 #[60, 65, 70, 104, 109, 114, 119, 124, 129, 162, 167], 60) := by decide +kernel
theorem d_M_count_68 : decode b_M_count 68 = .ok (.aload_n 0, 1) := by decide +kernel
theorem d_M_count_69 : decode b_M_count 69 = .ok (.getfield 90, 3) := by decide +kernel
theorem d_M_count_72 : decode b_M_count 72 = .ok (.ireturn, 1) := by decide +kernel
theorem d_M_count_73 : decode b_M_count 73 = .ok (.aload_n 0, 1) := by decide +kernel
theorem d_M_count_74 : decode b_M_count 74 = .ok (.getfield 136, 3) := by decide +kernel
theorem d_M_count_77 : decode b_M_count 77 = .ok (.ireturn, 1) := by decide +kernel
theorem d_M_count_78 : decode b_M_count 78 = .ok (.iconst 0, 1) := by decide +kernel
theorem d_M_count_79 : decode b_M_count 79 = .ok (.istore_n 3, 1) := by decide +kernel
theorem d_M_count_80 : decode b_M_count 80 = .ok (.iload_n 3, 1) := by decide +kernel
theorem d_M_count_81 : decode b_M_count 81 = .ok (.aload_n 0, 1) := by decide +kernel
theorem d_M_count_82 : decode b_M_count 82 = .ok (.getfield 136, 3) := by decide +kernel
theorem d_M_count_85 : decode b_M_count 85 = .ok (.if_icmp .ge 25, 3) := by decide +kernel
theorem d_M_count_88 : decode b_M_count 88 = .ok (.iload_n 2, 1) := by decide +kernel
theorem d_M_count_89 : decode b_M_count 89 = .ok (.aload_n 0, 1) := by decide +kernel
theorem d_M_count_90 : decode b_M_count 90 = .ok (.iload_n 3, 1) := by decide +kernel
theorem d_M_count_91 : decode b_M_count 91 = .ok (.invokevirtual 143, 3) := by decide +kernel
theorem d_M_count_94 : decode b_M_count 94 = .ok (.ifCond .eq 7, 3) := by decide +kernel
theorem d_M_count_97 : decode b_M_count 97 = .ok (.iconst 1, 1) := by decide +kernel
theorem d_M_count_98 : decode b_M_count 98 = .ok (.goto 4, 3) := by decide +kernel
theorem d_M_count_101 : decode b_M_count 101 = .ok (.iconst 0, 1) := by decide +kernel
theorem d_M_count_102 : decode b_M_count 102 = .ok (.iadd, 1) := by decide +kernel
theorem d_M_count_103 : decode b_M_count 103 = .ok (.istore_n 2, 1) := by decide +kernel
theorem d_M_count_104 : decode b_M_count 104 = .ok (.iinc 3 1, 3) := by decide +kernel
theorem d_M_count_107 : decode b_M_count 107 = .ok (.goto (-27), 3) := by decide +kernel
theorem d_M_count_110 : decode b_M_count 110 = .ok (.iload_n 2, 1) := by decide +kernel
theorem d_M_count_111 : decode b_M_count 111 = .ok (.ireturn, 1) := by decide +kernel
theorem d_M_count_112 : decode b_M_count 112 = .ok (.aload_n 0, 1) := by decide +kernel
theorem d_M_count_113 : decode b_M_count 113 = .ok (.getfield 164, 3) := by decide +kernel
theorem d_M_count_116 : decode b_M_count 116 = .ok (.ireturn, 1) := by decide +kernel
theorem d_M_count_117 : decode b_M_count 117 = .ok (.aload_n 0, 1) := by decide +kernel
theorem d_M_count_118 : decode b_M_count 118 = .ok (.getfield 167, 3) := by decide +kernel
theorem d_M_count_121 : decode b_M_count 121 = .ok (.ireturn, 1) := by decide +kernel
theorem d_M_count_122 : decode b_M_count 122 = .ok (.aload_n 0, 1) := by decide +kernel
theorem d_M_count_123 : decode b_M_count 123 = .ok (.getfield 170, 3) := by decide +kernel
theorem d_M_count_126 : decode b_M_count 126 = .ok (.ireturn, 1) := by decide +kernel
theorem d_M_count_127 : decode b_M_count 127 = .ok (.aload_n 0, 1) := by decide +kernel
theorem d_M_count_128 : decode b_M_count 128 = .ok (.getfield 182, 3) := by decide +kernel
theorem d_M_count_131 : decode b_M_count 131 = .ok (.ireturn, 1) := by decide +kernel
theorem d_M_count_132 : decode b_M_count 132 = .ok (.aload_n 0, 1) := by decide +kernel
theorem d_M_count_133 : decode b_M_count 133 = .ok (.getfield 185, 3) := by decide +kernel
theorem d_M_count_136 : decode b_M_count 136 = .ok (.ireturn, 1) := by decide +kernel
theorem d_M_count_137 : decode b_M_count 137 = .ok (.iconst 0, 1) := by decide +kernel
theorem d_M_count_138 : decode b_M_count 138 = .ok (.istore_n 3, 1) := by decide +kernel
theorem d_M_count_139 : decode b_M_count 139 = .ok (.iload_n 3, 1) := by decide +kernel
theorem d_M_count_140 : decode b_M_count 140 = .ok (.bipush 16, 2) := by decide +kernel
theorem d_M_count_142 : decode b_M_count 142 = .ok (.if_icmp .ge 26, 3) := by decide +kernel
theorem d_M_count_145 : decode b_M_count 145 = .ok (.iload_n 2, 1) := by decide +kernel
theorem d_M_count_146 : decode b_M_count 146 = .ok (.aload_n 0, 1) := by decide +kernel
theorem d_M_count_147 : decode b_M_count 147 = .ok (.getfield 67, 3) := by decide +kernel
theorem d_M_count_150 : decode b_M_count 150 = .ok (.iload_n 3, 1) := by decide +kernel
theorem d_M_count_151 : decode b_M_count 151 = .ok (.iaload, 1) := by decide +kernel
theorem d_M_count_152 : decode b_M_count 152 = .ok (.ifCond .lt 7, 3) := by decide +kernel
theorem d_M_count_155 : decode b_M_count 155 = .ok (.iconst 1, 1) := by decide +kernel
theorem d_M_count_156 : decode b_M_count 156 = .ok (.goto 4, 3) := by decide +kernel
theorem d_M_count_159 : decode b_M_count 159 = .ok (.iconst 0, 1) := by decide +kernel
theorem d_M_count_160 : decode b_M_count 160 = .ok (.iadd, 1) := by decide +kernel
theorem d_M_count_161 : decode b_M_count 161 = .ok (.istore_n 2, 1) := by decide +kernel
theorem d_M_count_162 : decode b_M_count 162 = .ok (.iinc 3 1, 3) := by decide +kernel
theorem d_M_count_165 : decode b_M_count 165 = .ok (.goto (-26), 3) := by decide +kernel
theorem d_M_count_168 : decode b_M_count 168 = .ok (.iload_n 2, 1) := by decide +kernel
theorem d_M_count_169 : decode b_M_count 169 = .ok (.ireturn, 1) := by decide +kernel
theorem d_M_count_170 : decode b_M_count 170 = .ok (.aload_n 0, 1) := by decide +kernel
theorem d_M_count_171 : decode b_M_count 171 = .ok (.getfield 76, 3) := by decide +kernel
theorem d_M_count_174 : decode b_M_count 174 = .ok (.ireturn, 1) := by decide +kernel
theorem d_M_count_175 : decode b_M_count 175 = .ok (.aload_n 0, 1) := by decide +kernel
theorem d_M_count_176 : decode b_M_count 176 = .ok (.getfield 146, 3) := by decide +kernel
theorem d_M_count_179 : decode b_M_count 179 = .ok (.ireturn, 1) := by decide +kernel
theorem d_M_count_180 : decode b_M_count 180 = .ok (.iconst (-1), 1) := by decide +kernel
theorem d_M_count_181 : decode b_M_count 181 = .ok (.ireturn, 1) := by decide +kernel
theorem d_E_init_0 : decode b_E_init 0 = .ok (.aload_n 0, 1) := by decide +kernel
theorem d_E_init_1 : decode b_E_init 1 = .ok (.invokespecial 3, 3) := by decide +kernel
theorem d_E_init_4 : decode b_E_init 4 = .ok (.aload_n 0, 1) := by decide +kernel
theorem d_E_init_5 : decode b_E_init 5 = .ok (.bipush 14, 2) := by decide +kernel
theorem d_E_init_7 : decode b_E_init 7 = .ok (.newarray .int, 2) := by decide +kernel
theorem d_E_init_9 : decode b_E_init 9 = .ok (.putfield 9, 3) := by decide +kernel
theorem d_E_init_12 : decode b_E_init 12 = .ok (.aload_n 0, 1) := by decide +kernel
theorem d_E_init_13 : decode b_E_init 13 = .ok (.bipush 14, 2) := by decide +kernel
theorem d_E_init_15 : decode b_E_init 15 = .ok (.newarray .int, 2) := by decide +kernel
theorem d_E_init_17 : decode b_E_init 17 = .ok (.putfield 15, 3) := by decide +kernel
theorem d_E_init_20 : decode b_E_init 20 = .ok (.aload_n 0, 1) := by decide +kernel
theorem d_E_init_21 : decode b_E_init 21 = .ok (.bipush 14, 2) := by decide +kernel
theorem d_E_init_23 : decode b_E_init 23 = .ok (.newarray .int, 2) := by decide +kernel
theorem d_E_init_25 : decode b_E_init 25 = .ok (.putfield 18, 3) := by decide +kernel
theorem d_E_init_28 : decode b_E_init 28 = .ok (.aload_n 0, 1) := by decide +kernel
theorem d_E_init_29 : decode b_E_init 29 = .ok (.bipush 14, 2) := by decide +kernel
theorem d_E_init_31 : decode b_E_init 31 = .ok (.newarray .int, 2) := by decide +kernel
theorem d_E_init_33 : decode b_E_init 33 = .ok (.putfield 21, 3) := by decide +kernel
theorem d_E_init_36 : decode b_E_init 36 = .ok (.aload_n 0, 1) := by decide +kernel
theorem d_E_init_37 : decode b_E_init 37 = .ok (.iconst 1, 1) := by decide +kernel
theorem d_E_init_38 : decode b_E_init 38 = .ok (.iload_n 1, 1) := by decide +kernel
theorem d_E_init_39 : decode b_E_init 39 = .ok (.ishl, 1) := by decide +kernel
theorem d_E_init_40 : decode b_E_init 40 = .ok (.putfield 24, 3) := by decide +kernel
theorem d_E_init_43 : decode b_E_init 43 = .ok (.aload_n 0, 1) := by decide +kernel
theorem d_E_init_44 : decode b_E_init 44 = .ok (.aload_n 0, 1) := by decide +kernel
theorem d_E_init_45 : decode b_E_init 45 = .ok (.getfield 24, 3) := by decide +kernel
theorem d_E_init_48 : decode b_E_init 48 = .ok (.newarray .int, 2) := by decide +kernel
theorem d_E_init_50 : decode b_E_init 50 = .ok (.putfield 28, 3) := by decide +kernel
theorem d_E_init_53 : decode b_E_init 53 = .ok (.return_, 1) := by decide +kernel
theorem d_E_size_0 : decode b_E_size 0 = .ok (.aload_n 0, 1) := by decide +kernel
theorem d_E_size_1 : decode b_E_size 1 = .ok (.getfield 31, 3) := by decide +kernel
theorem d_E_size_4 : decode b_E_size 4 = .ok (.ireturn, 1) := by decide +kernel
theorem d_E_lengthOf_0 : decode b_E_lengthOf 0 = .ok (.aload_n 0, 1) := by decide +kernel
theorem d_E_lengthOf_1 : decode b_E_lengthOf 1 = .ok (.getfield 18, 3) := by decide +kernel
theorem d_E_lengthOf_4 : decode b_E_lengthOf 4 = .ok (.iload_n 1, 1) := by decide +kernel
theorem d_E_lengthOf_5 : decode b_E_lengthOf 5 = .ok (.iaload, 1) := by decide +kernel
theorem d_E_lengthOf_6 : decode b_E_lengthOf 6 = .ok (.ireturn, 1) := by decide +kernel
theorem d_E_listFor_0 : decode b_E_listFor 0 = .ok (.aload_n 0, 1) := by decide +kernel
theorem d_E_listFor_1 : decode b_E_listFor 1 = .ok (.getfield 28, 3) := by decide +kernel
theorem d_E_listFor_4 : decode b_E_listFor 4 = .ok (.iload_n 1, 1) := by decide +kernel
theorem d_E_listFor_5 : decode b_E_listFor 5 = .ok (.iaload, 1) := by decide +kernel
theorem d_E_listFor_6 : decode b_E_listFor 6 = .ok (.ireturn, 1) := by decide +kernel
theorem d_E_add_0 : decode b_E_add 0 = .ok (.aload_n 0, 1) := by decide +kernel
theorem d_E_add_1 : decode b_E_add 1 = .ok (.getfield 31, 3) := by decide +kernel
theorem d_E_add_4 : decode b_E_add 4 = .ok (.istore 5, 2) := by decide +kernel
theorem d_E_add_6 : decode b_E_add 6 = .ok (.aload_n 0, 1) := by decide +kernel
theorem d_E_add_7 : decode b_E_add 7 = .ok (.getfield 9, 3) := by decide +kernel
theorem d_E_add_10 : decode b_E_add 10 = .ok (.iload 5, 2) := by decide +kernel
theorem d_E_add_12 : decode b_E_add 12 = .ok (.iload_n 1, 1) := by decide +kernel
theorem d_E_add_13 : decode b_E_add 13 = .ok (.iastore, 1) := by decide +kernel
theorem d_E_add_14 : decode b_E_add 14 = .ok (.aload_n 0, 1) := by decide +kernel
theorem d_E_add_15 : decode b_E_add 15 = .ok (.getfield 15, 3) := by decide +kernel
theorem d_E_add_18 : decode b_E_add 18 = .ok (.iload 5, 2) := by decide +kernel
theorem d_E_add_20 : decode b_E_add 20 = .ok (.iload_n 2, 1) := by decide +kernel
theorem d_E_add_21 : decode b_E_add 21 = .ok (.iastore, 1) := by decide +kernel
theorem d_E_add_22 : decode b_E_add 22 = .ok (.aload_n 0, 1) := by decide +kernel
theorem d_E_add_23 : decode b_E_add 23 = .ok (.getfield 18, 3) := by decide +kernel
theorem d_E_add_26 : decode b_E_add 26 = .ok (.iload 5, 2) := by decide +kernel
theorem d_E_add_28 : decode b_E_add 28 = .ok (.iload_n 3, 1) := by decide +kernel
theorem d_E_add_29 : decode b_E_add 29 = .ok (.iastore, 1) := by decide +kernel
theorem d_E_add_30 : decode b_E_add 30 = .ok (.aload_n 0, 1) := by decide +kernel
theorem d_E_add_31 : decode b_E_add 31 = .ok (.getfield 21, 3) := by decide +kernel
theorem d_E_add_34 : decode b_E_add 34 = .ok (.iload 5, 2) := by decide +kernel
theorem d_E_add_36 : decode b_E_add 36 = .ok (.iload 4, 2) := by decide +kernel
theorem d_E_add_38 : decode b_E_add 38 = .ok (.iastore, 1) := by decide +kernel
theorem d_E_add_39 : decode b_E_add 39 = .ok (.aload_n 0, 1) := by decide +kernel
theorem d_E_add_40 : decode b_E_add 40 = .ok (.dup, 1) := by decide +kernel
theorem d_E_add_41 : decode b_E_add 41 = .ok (.getfield 31, 3) := by decide +kernel
theorem d_E_add_44 : decode b_E_add 44 = .ok (.iconst 1, 1) := by decide +kernel
theorem d_E_add_45 : decode b_E_add 45 = .ok (.iadd, 1) := by decide +kernel
theorem d_E_add_46 : decode b_E_add 46 = .ok (.putfield 31, 3) := by decide +kernel
theorem d_E_add_49 : decode b_E_add 49 = .ok (.aload_n 0, 1) := by decide +kernel
theorem d_E_add_50 : decode b_E_add 50 = .ok (.iload 5, 2) := by decide +kernel
theorem d_E_add_52 : decode b_E_add 52 = .ok (.invokevirtual 34, 3) := by decide +kernel
theorem d_E_add_55 : decode b_E_add 55 = .ok (.iload 4, 2) := by decide +kernel
theorem d_E_add_57 : decode b_E_add 57 = .ok (.iconst (-1), 1) := by decide +kernel
theorem d_E_add_58 : decode b_E_add 58 = .ok (.if_icmp .ne 16, 3) := by decide +kernel
theorem d_E_add_61 : decode b_E_add 61 = .ok (.aload_n 0, 1) := by decide +kernel
theorem d_E_add_62 : decode b_E_add 62 = .ok (.dup, 1) := by decide +kernel
theorem d_E_add_63 : decode b_E_add 63 = .ok (.getfield 38, 3) := by decide +kernel
theorem d_E_add_66 : decode b_E_add 66 = .ok (.iconst 1, 1) := by decide +kernel
theorem d_E_add_67 : decode b_E_add 67 = .ok (.iload 5, 2) := by decide +kernel
theorem d_E_add_69 : decode b_E_add 69 = .ok (.ishl, 1) := by decide +kernel
theorem d_E_add_70 : decode b_E_add 70 = .ok (.ior, 1) := by decide +kernel
theorem d_E_add_71 : decode b_E_add 71 = .ok (.putfield 38, 3) := by decide +kernel
theorem d_E_add_74 : decode b_E_add 74 = .ok (.iload 5, 2) := by decide +kernel
theorem d_E_add_76 : decode b_E_add 76 = .ok (.ireturn, 1) := by decide +kernel
theorem d_E_addToLists_0 : decode b_E_addToLists 0 = .ok (.iconst 0, 1) := by decide +kernel
theorem d_E_addToLists_1 : decode b_E_addToLists 1 = .ok (.istore_n 2, 1) := by decide +kernel
theorem d_E_addToLists_2 : decode b_E_addToLists 2 = .ok (.iload_n 2, 1) := by decide +kernel
theorem d_E_addToLists_3 : decode b_E_addToLists 3 = .ok (.aload_n 0, 1) := by decide +kernel
theorem d_E_addToLists_4 : decode b_E_addToLists 4 = .ok (.getfield 24, 3) := by decide +kernel
theorem d_E_addToLists_7 : decode b_E_addToLists 7 = .ok (.if_icmp .ge 44, 3) := by decide +kernel
theorem d_E_addToLists_10 : decode b_E_addToLists 10 = .ok (.aload_n 0, 1) := by decide +kernel
theorem d_E_addToLists_11 : decode b_E_addToLists 11 = .ok (.iload_n 1, 1) := by decide +kernel
theorem d_E_addToLists_12 : decode b_E_addToLists 12 = .ok (.iload_n 2, 1) := by decide +kernel
theorem d_E_addToLists_13 : decode b_E_addToLists 13 = .ok (.invokevirtual 41, 3) := by decide +kernel
theorem d_E_addToLists_16 : decode b_E_addToLists 16 = .ok (.ifCond .eq 29, 3) := by decide +kernel
theorem d_E_addToLists_19 : decode b_E_addToLists 19 = .ok (.aload_n 0, 1) := by decide +kernel
theorem d_E_addToLists_20 : decode b_E_addToLists 20 = .ok (.getfield 28, 3) := by decide +kernel
theorem d_E_addToLists_23 : decode b_E_addToLists 23 = .ok (.iload_n 2, 1) := by decide +kernel
theorem d_E_addToLists_24 : decode b_E_addToLists 24 = .ok (.iaload, 1) := by decide +kernel
theorem d_E_addToLists_25 : decode b_E_addToLists 25 = .ok (.aload_n 0, 1) := by decide +kernel
theorem d_E_addToLists_26 : decode b_E_addToLists 26 = .ok (.getfield 38, 3) := by decide +kernel
theorem d_E_addToLists_29 : decode b_E_addToLists 29 = .ok (.iand, 1) := by decide +kernel
theorem d_E_addToLists_30 : decode b_E_addToLists 30 = .ok (.ifCond .ne 15, 3) := by decide +kernel
theorem d_E_addToLists_33 : decode b_E_addToLists 33 = .ok (.aload_n 0, 1) := by decide +kernel
theorem d_E_addToLists_34 : decode b_E_addToLists 34 = .ok (.getfield 28, 3) := by decide +kernel
theorem d_E_addToLists_37 : decode b_E_addToLists 37 = .ok (.iload_n 2, 1) := by decide +kernel
theorem d_E_addToLists_38 : decode b_E_addToLists 38 = .ok (.dup2, 1) := by decide +kernel
theorem d_E_addToLists_39 : decode b_E_addToLists 39 = .ok (.iaload, 1) := by decide +kernel
theorem d_E_addToLists_40 : decode b_E_addToLists 40 = .ok (.iconst 1, 1) := by decide +kernel
theorem d_E_addToLists_41 : decode b_E_addToLists 41 = .ok (.iload_n 1, 1) := by decide +kernel
theorem d_E_addToLists_42 : decode b_E_addToLists 42 = .ok (.ishl, 1) := by decide +kernel
theorem d_E_addToLists_43 : decode b_E_addToLists 43 = .ok (.ior, 1) := by decide +kernel
theorem d_E_addToLists_44 : decode b_E_addToLists 44 = .ok (.iastore, 1) := by decide +kernel
theorem d_E_addToLists_45 : decode b_E_addToLists 45 = .ok (.iinc 2 1, 3) := by decide +kernel
theorem d_E_addToLists_48 : decode b_E_addToLists 48 = .ok (.goto (-46), 3) := by decide +kernel
theorem d_E_addToLists_51 : decode b_E_addToLists 51 = .ok (.return_, 1) := by decide +kernel
theorem d_E_fits_0 : decode b_E_fits 0 = .ok (.iload_n 2, 1) := by decide +kernel
theorem d_E_fits_1 : decode b_E_fits 1 = .ok (.aload_n 0, 1) := by decide +kernel
theorem d_E_fits_2 : decode b_E_fits 2 = .ok (.getfield 9, 3) := by decide +kernel
theorem d_E_fits_5 : decode b_E_fits 5 = .ok (.iload_n 1, 1) := by decide +kernel
theorem d_E_fits_6 : decode b_E_fits 6 = .ok (.iaload, 1) := by decide +kernel
theorem d_E_fits_7 : decode b_E_fits 7 = .ok (.iand, 1) := by decide +kernel
theorem d_E_fits_8 : decode b_E_fits 8 = .ok (.aload_n 0, 1) := by decide +kernel
theorem d_E_fits_9 : decode b_E_fits 9 = .ok (.getfield 15, 3) := by decide +kernel
theorem d_E_fits_12 : decode b_E_fits 12 = .ok (.iload_n 1, 1) := by decide +kernel
theorem d_E_fits_13 : decode b_E_fits 13 = .ok (.iaload, 1) := by decide +kernel
theorem d_E_fits_14 : decode b_E_fits 14 = .ok (.if_icmp .ne 7, 3) := by decide +kernel
theorem d_E_fits_17 : decode b_E_fits 17 = .ok (.iconst 1, 1) := by decide +kernel
theorem d_E_fits_18 : decode b_E_fits 18 = .ok (.goto 4, 3) := by decide +kernel
theorem d_E_fits_21 : decode b_E_fits 21 = .ok (.iconst 0, 1) := by decide +kernel
theorem d_E_fits_22 : decode b_E_fits 22 = .ok (.ireturn, 1) := by decide +kernel
theorem d_E_isOpen_0 : decode b_E_isOpen 0 = .ok (.aload_n 0, 1) := by decide +kernel
theorem d_E_isOpen_1 : decode b_E_isOpen 1 = .ok (.getfield 21, 3) := by decide +kernel
theorem d_E_isOpen_4 : decode b_E_isOpen 4 = .ok (.iload_n 1, 1) := by decide +kernel
theorem d_E_isOpen_5 : decode b_E_isOpen 5 = .ok (.iaload, 1) := by decide +kernel
theorem d_E_isOpen_6 : decode b_E_isOpen 6 = .ok (.istore_n 3, 1) := by decide +kernel
theorem d_E_isOpen_7 : decode b_E_isOpen 7 = .ok (.iload_n 3, 1) := by decide +kernel
theorem d_E_isOpen_8 : decode b_E_isOpen 8 = .ok (.iconst (-1), 1) := by decide +kernel
theorem d_E_isOpen_9 : decode b_E_isOpen 9 = .ok (.if_icmp .eq 12, 3) := by decide +kernel
theorem d_E_isOpen_12 : decode b_E_isOpen 12 = .ok (.iload_n 2, 1) := by decide +kernel
theorem d_E_isOpen_13 : decode b_E_isOpen 13 = .ok (.iload_n 3, 1) := by decide +kernel
theorem d_E_isOpen_14 : decode b_E_isOpen 14 = .ok (.ishr, 1) := by decide +kernel
theorem d_E_isOpen_15 : decode b_E_isOpen 15 = .ok (.iconst 1, 1) := by decide +kernel
theorem d_E_isOpen_16 : decode b_E_isOpen 16 = .ok (.iand, 1) := by decide +kernel
theorem d_E_isOpen_17 : decode b_E_isOpen 17 = .ok (.iconst 1, 1) := by decide +kernel
theorem d_E_isOpen_18 : decode b_E_isOpen 18 = .ok (.if_icmp .ne 7, 3) := by decide +kernel
theorem d_E_isOpen_21 : decode b_E_isOpen 21 = .ok (.iconst 1, 1) := by decide +kernel
theorem d_E_isOpen_22 : decode b_E_isOpen 22 = .ok (.goto 4, 3) := by decide +kernel
theorem d_E_isOpen_25 : decode b_E_isOpen 25 = .ok (.iconst 0, 1) := by decide +kernel
theorem d_E_isOpen_26 : decode b_E_isOpen 26 = .ok (.ireturn, 1) := by decide +kernel
theorem d_E_firstThatFits_0 : decode b_E_firstThatFits 0 = .ok (.iconst 0, 1) := by decide +kernel
theorem d_E_firstThatFits_1 : decode b_E_firstThatFits 1 = .ok (.istore_n 3, 1) := by decide +kernel
theorem d_E_firstThatFits_2 : decode b_E_firstThatFits 2 = .ok (.iload_n 3, 1) := by decide +kernel
theorem d_E_firstThatFits_3 : decode b_E_firstThatFits 3 = .ok (.aload_n 0, 1) := by decide +kernel
theorem d_E_firstThatFits_4 : decode b_E_firstThatFits 4 = .ok (.getfield 31, 3) := by decide +kernel
theorem d_E_firstThatFits_7 : decode b_E_firstThatFits 7 = .ok (.if_icmp .ge 29, 3) := by decide +kernel
theorem d_E_firstThatFits_10 : decode b_E_firstThatFits 10 = .ok (.aload_n 0, 1) := by decide +kernel
theorem d_E_firstThatFits_11 : decode b_E_firstThatFits 11 = .ok (.iload_n 3, 1) := by decide +kernel
theorem d_E_firstThatFits_12 : decode b_E_firstThatFits 12 = .ok (.iload_n 1, 1) := by decide +kernel
theorem d_E_firstThatFits_13 : decode b_E_firstThatFits 13 = .ok (.invokevirtual 41, 3) := by decide +kernel
theorem d_E_firstThatFits_16 : decode b_E_firstThatFits 16 = .ok (.ifCond .eq 14, 3) := by decide +kernel
theorem d_E_firstThatFits_19 : decode b_E_firstThatFits 19 = .ok (.aload_n 0, 1) := by decide +kernel
theorem d_E_firstThatFits_20 : decode b_E_firstThatFits 20 = .ok (.iload_n 3, 1) := by decide +kernel
theorem d_E_firstThatFits_21 : decode b_E_firstThatFits 21 = .ok (.iload_n 2, 1) := by decide +kernel
theorem d_E_firstThatFits_22 : decode b_E_firstThatFits 22 = .ok (.invokevirtual 45, 3) := by decide +kernel
theorem d_E_firstThatFits_25 : decode b_E_firstThatFits 25 = .ok (.ifCond .eq 5, 3) := by decide +kernel
theorem d_E_firstThatFits_28 : decode b_E_firstThatFits 28 = .ok (.iload_n 3, 1) := by decide +kernel
theorem d_E_firstThatFits_29 : decode b_E_firstThatFits 29 = .ok (.ireturn, 1) := by decide +kernel
theorem d_E_firstThatFits_30 : decode b_E_firstThatFits 30 = .ok (.iinc 3 1, 3) := by decide +kernel
theorem d_E_firstThatFits_33 : decode b_E_firstThatFits 33 = .ok (.goto (-31), 3) := by decide +kernel
theorem d_E_firstThatFits_36 : decode b_E_firstThatFits 36 = .ok (.iconst (-1), 1) := by decide +kernel
theorem d_E_firstThatFits_37 : decode b_E_firstThatFits 37 = .ok (.ireturn, 1) := by decide +kernel
theorem d_E_firstOfList_0 : decode b_E_firstOfList 0 = .ok (.iconst 0, 1) := by decide +kernel
theorem d_E_firstOfList_1 : decode b_E_firstOfList 1 = .ok (.istore_n 3, 1) := by decide +kernel
theorem d_E_firstOfList_2 : decode b_E_firstOfList 2 = .ok (.iload_n 3, 1) := by decide +kernel
theorem d_E_firstOfList_3 : decode b_E_firstOfList 3 = .ok (.aload_n 0, 1) := by decide +kernel
theorem d_E_firstOfList_4 : decode b_E_firstOfList 4 = .ok (.getfield 31, 3) := by decide +kernel
theorem d_E_firstOfList_7 : decode b_E_firstOfList 7 = .ok (.if_icmp .ge 29, 3) := by decide +kernel
theorem d_E_firstOfList_10 : decode b_E_firstOfList 10 = .ok (.iload_n 1, 1) := by decide +kernel
theorem d_E_firstOfList_11 : decode b_E_firstOfList 11 = .ok (.iload_n 3, 1) := by decide +kernel
theorem d_E_firstOfList_12 : decode b_E_firstOfList 12 = .ok (.ishr, 1) := by decide +kernel
theorem d_E_firstOfList_13 : decode b_E_firstOfList 13 = .ok (.iconst 1, 1) := by decide +kernel
theorem d_E_firstOfList_14 : decode b_E_firstOfList 14 = .ok (.iand, 1) := by decide +kernel
theorem d_E_firstOfList_15 : decode b_E_firstOfList 15 = .ok (.iconst 1, 1) := by decide +kernel
theorem d_E_firstOfList_16 : decode b_E_firstOfList 16 = .ok (.if_icmp .ne 14, 3) := by decide +kernel
theorem d_E_firstOfList_19 : decode b_E_firstOfList 19 = .ok (.aload_n 0, 1) := by decide +kernel
theorem d_E_firstOfList_20 : decode b_E_firstOfList 20 = .ok (.iload_n 3, 1) := by decide +kernel
theorem d_E_firstOfList_21 : decode b_E_firstOfList 21 = .ok (.iload_n 2, 1) := by decide +kernel
theorem d_E_firstOfList_22 : decode b_E_firstOfList 22 = .ok (.invokevirtual 45, 3) := by decide +kernel
theorem d_E_firstOfList_25 : decode b_E_firstOfList 25 = .ok (.ifCond .eq 5, 3) := by decide +kernel
theorem d_E_firstOfList_28 : decode b_E_firstOfList 28 = .ok (.iload_n 3, 1) := by decide +kernel
theorem d_E_firstOfList_29 : decode b_E_firstOfList 29 = .ok (.ireturn, 1) := by decide +kernel
theorem d_E_firstOfList_30 : decode b_E_firstOfList 30 = .ok (.iinc 3 1, 3) := by decide +kernel
theorem d_E_firstOfList_33 : decode b_E_firstOfList 33 = .ok (.goto (-31), 3) := by decide +kernel
theorem d_E_firstOfList_36 : decode b_E_firstOfList 36 = .ok (.iconst (-1), 1) := by decide +kernel
theorem d_E_firstOfList_37 : decode b_E_firstOfList 37 = .ok (.ireturn, 1) := by decide +kernel
theorem d_E_memberAt_0 : decode b_E_memberAt 0 = .ok (.iconst 0, 1) := by decide +kernel
theorem d_E_memberAt_1 : decode b_E_memberAt 1 = .ok (.istore_n 2, 1) := by decide +kernel
theorem d_E_memberAt_2 : decode b_E_memberAt 2 = .ok (.iconst 0, 1) := by decide +kernel
theorem d_E_memberAt_3 : decode b_E_memberAt 3 = .ok (.istore_n 3, 1) := by decide +kernel
theorem d_E_memberAt_4 : decode b_E_memberAt 4 = .ok (.iload_n 3, 1) := by decide +kernel
theorem d_E_memberAt_5 : decode b_E_memberAt 5 = .ok (.bipush 14, 2) := by decide +kernel
theorem d_E_memberAt_7 : decode b_E_memberAt 7 = .ok (.if_icmp .ge 28, 3) := by decide +kernel
theorem d_E_memberAt_10 : decode b_E_memberAt 10 = .ok (.iload_n 0, 1) := by decide +kernel
theorem d_E_memberAt_11 : decode b_E_memberAt 11 = .ok (.iload_n 3, 1) := by decide +kernel
theorem d_E_memberAt_12 : decode b_E_memberAt 12 = .ok (.ishr, 1) := by decide +kernel
theorem d_E_memberAt_13 : decode b_E_memberAt 13 = .ok (.iconst 1, 1) := by decide +kernel
theorem d_E_memberAt_14 : decode b_E_memberAt 14 = .ok (.iand, 1) := by decide +kernel
theorem d_E_memberAt_15 : decode b_E_memberAt 15 = .ok (.iconst 1, 1) := by decide +kernel
theorem d_E_memberAt_16 : decode b_E_memberAt 16 = .ok (.if_icmp .ne 13, 3) := by decide +kernel
theorem d_E_memberAt_19 : decode b_E_memberAt 19 = .ok (.iload_n 2, 1) := by decide +kernel
theorem d_E_memberAt_20 : decode b_E_memberAt 20 = .ok (.iload_n 1, 1) := by decide +kernel
theorem d_E_memberAt_21 : decode b_E_memberAt 21 = .ok (.if_icmp .ne 5, 3) := by decide +kernel
theorem d_E_memberAt_24 : decode b_E_memberAt 24 = .ok (.iload_n 3, 1) := by decide +kernel
theorem d_E_memberAt_25 : decode b_E_memberAt 25 = .ok (.ireturn, 1) := by decide +kernel
theorem d_E_memberAt_26 : decode b_E_memberAt 26 = .ok (.iinc 2 1, 3) := by decide +kernel
theorem d_E_memberAt_29 : decode b_E_memberAt 29 = .ok (.iinc 3 1, 3) := by decide +kernel
theorem d_E_memberAt_32 : decode b_E_memberAt 32 = .ok (.goto (-28), 3) := by decide +kernel
theorem d_E_memberAt_35 : decode b_E_memberAt 35 = .ok (.iconst (-1), 1) := by decide +kernel
theorem d_E_memberAt_36 : decode b_E_memberAt 36 = .ok (.ireturn, 1) := by decide +kernel
theorem d_E_leaveWordOut_0 : decode b_E_leaveWordOut 0 = .ok (.iconst 0, 1) := by decide +kernel
theorem d_E_leaveWordOut_1 : decode b_E_leaveWordOut 1 = .ok (.istore_n 1, 1) := by decide +kernel
theorem d_E_leaveWordOut_2 : decode b_E_leaveWordOut 2 = .ok (.iload_n 1, 1) := by decide +kernel
theorem d_E_leaveWordOut_3 : decode b_E_leaveWordOut 3 = .ok (.aload_n 0, 1) := by decide +kernel
theorem d_E_leaveWordOut_4 : decode b_E_leaveWordOut 4 = .ok (.getfield 24, 3) := by decide +kernel
theorem d_E_leaveWordOut_7 : decode b_E_leaveWordOut 7 = .ok (.if_icmp .ge 20, 3) := by decide +kernel
theorem d_E_leaveWordOut_10 : decode b_E_leaveWordOut 10 = .ok (.aload_n 0, 1) := by decide +kernel
theorem d_E_leaveWordOut_11 : decode b_E_leaveWordOut 11 = .ok (.getfield 28, 3) := by decide +kernel
theorem d_E_leaveWordOut_14 : decode b_E_leaveWordOut 14 = .ok (.iload_n 1, 1) := by decide +kernel
theorem d_E_leaveWordOut_15 : decode b_E_leaveWordOut 15 = .ok (.iaload, 1) := by decide +kernel
theorem d_E_leaveWordOut_16 : decode b_E_leaveWordOut 16 = .ok (.ifCond .ne 5, 3) := by decide +kernel
theorem d_E_leaveWordOut_19 : decode b_E_leaveWordOut 19 = .ok (.iconst 1, 1) := by decide +kernel
theorem d_E_leaveWordOut_20 : decode b_E_leaveWordOut 20 = .ok (.ireturn, 1) := by decide +kernel
theorem d_E_leaveWordOut_21 : decode b_E_leaveWordOut 21 = .ok (.iinc 1 1, 3) := by decide +kernel
theorem d_E_leaveWordOut_24 : decode b_E_leaveWordOut 24 = .ok (.goto (-22), 3) := by decide +kernel
theorem d_E_leaveWordOut_27 : decode b_E_leaveWordOut 27 = .ok (.iconst 0, 1) := by decide +kernel
theorem d_E_leaveWordOut_28 : decode b_E_leaveWordOut 28 = .ok (.ireturn, 1) := by decide +kernel
theorem d_E_anyCross_0 : decode b_E_anyCross 0 = .ok (.iconst 0, 1) := by decide +kernel
theorem d_E_anyCross_1 : decode b_E_anyCross 1 = .ok (.istore_n 1, 1) := by decide +kernel
theorem d_E_anyCross_2 : decode b_E_anyCross 2 = .ok (.iload_n 1, 1) := by decide +kernel
theorem d_E_anyCross_3 : decode b_E_anyCross 3 = .ok (.aload_n 0, 1) := by decide +kernel
theorem d_E_anyCross_4 : decode b_E_anyCross 4 = .ok (.getfield 31, 3) := by decide +kernel
theorem d_E_anyCross_7 : decode b_E_anyCross 7 = .ok (.if_icmp .ge 56, 3) := by decide +kernel
theorem d_E_anyCross_10 : decode b_E_anyCross 10 = .ok (.iload_n 1, 1) := by decide +kernel
theorem d_E_anyCross_11 : decode b_E_anyCross 11 = .ok (.iconst 1, 1) := by decide +kernel
theorem d_E_anyCross_12 : decode b_E_anyCross 12 = .ok (.iadd, 1) := by decide +kernel
theorem d_E_anyCross_13 : decode b_E_anyCross 13 = .ok (.istore_n 2, 1) := by decide +kernel
theorem d_E_anyCross_14 : decode b_E_anyCross 14 = .ok (.iload_n 2, 1) := by decide +kernel
theorem d_E_anyCross_15 : decode b_E_anyCross 15 = .ok (.aload_n 0, 1) := by decide +kernel
theorem d_E_anyCross_16 : decode b_E_anyCross 16 = .ok (.getfield 31, 3) := by decide +kernel
theorem d_E_anyCross_19 : decode b_E_anyCross 19 = .ok (.if_icmp .ge 38, 3) := by decide +kernel
theorem d_E_anyCross_22 : decode b_E_anyCross 22 = .ok (.aload_n 0, 1) := by decide +kernel
theorem d_E_anyCross_23 : decode b_E_anyCross 23 = .ok (.iload_n 1, 1) := by decide +kernel
theorem d_E_anyCross_24 : decode b_E_anyCross 24 = .ok (.iload_n 2, 1) := by decide +kernel
theorem d_E_anyCross_25 : decode b_E_anyCross 25 = .ok (.invokevirtual 48, 3) := by decide +kernel
theorem d_E_anyCross_28 : decode b_E_anyCross 28 = .ok (.ifCond .eq 23, 3) := by decide +kernel
theorem d_E_anyCross_31 : decode b_E_anyCross 31 = .ok (.aload_n 0, 1) := by decide +kernel
theorem d_E_anyCross_32 : decode b_E_anyCross 32 = .ok (.iload_n 1, 1) := by decide +kernel
theorem d_E_anyCross_33 : decode b_E_anyCross 33 = .ok (.iload_n 2, 1) := by decide +kernel
theorem d_E_anyCross_34 : decode b_E_anyCross 34 = .ok (.invokevirtual 51, 3) := by decide +kernel
theorem d_E_anyCross_37 : decode b_E_anyCross 37 = .ok (.ifCond .ne 14, 3) := by decide +kernel
theorem d_E_anyCross_40 : decode b_E_anyCross 40 = .ok (.aload_n 0, 1) := by decide +kernel
theorem d_E_anyCross_41 : decode b_E_anyCross 41 = .ok (.iload_n 2, 1) := by decide +kernel
theorem d_E_anyCross_42 : decode b_E_anyCross 42 = .ok (.iload_n 1, 1) := by decide +kernel
theorem d_E_anyCross_43 : decode b_E_anyCross 43 = .ok (.invokevirtual 51, 3) := by decide +kernel
theorem d_E_anyCross_46 : decode b_E_anyCross 46 = .ok (.ifCond .ne 5, 3) := by decide +kernel
theorem d_E_anyCross_49 : decode b_E_anyCross 49 = .ok (.iconst 1, 1) := by decide +kernel
theorem d_E_anyCross_50 : decode b_E_anyCross 50 = .ok (.ireturn, 1) := by decide +kernel
theorem d_E_anyCross_51 : decode b_E_anyCross 51 = .ok (.iinc 2 1, 3) := by decide +kernel
theorem d_E_anyCross_54 : decode b_E_anyCross 54 = .ok (.goto (-40), 3) := by decide +kernel
theorem d_E_anyCross_57 : decode b_E_anyCross 57 = .ok (.iinc 1 1, 3) := by decide +kernel
theorem d_E_anyCross_60 : decode b_E_anyCross 60 = .ok (.goto (-58), 3) := by decide +kernel
theorem d_E_anyCross_63 : decode b_E_anyCross 63 = .ok (.iconst 0, 1) := by decide +kernel
theorem d_E_anyCross_64 : decode b_E_anyCross 64 = .ok (.ireturn, 1) := by decide +kernel
theorem d_E_haveCommonWord_0 : decode b_E_haveCommonWord 0 = .ok (.aload_n 0, 1) := by decide +kernel
theorem d_E_haveCommonWord_1 : decode b_E_haveCommonWord 1 = .ok (.getfield 15, 3) := by decide +kernel
theorem d_E_haveCommonWord_4 : decode b_E_haveCommonWord 4 = .ok (.iload_n 1, 1) := by decide +kernel
theorem d_E_haveCommonWord_5 : decode b_E_haveCommonWord 5 = .ok (.iaload, 1) := by decide +kernel
theorem d_E_haveCommonWord_6 : decode b_E_haveCommonWord 6 = .ok (.aload_n 0, 1) := by decide +kernel
theorem d_E_haveCommonWord_7 : decode b_E_haveCommonWord 7 = .ok (.getfield 15, 3) := by decide +kernel
theorem d_E_haveCommonWord_10 : decode b_E_haveCommonWord 10 = .ok (.iload_n 2, 1) := by decide +kernel
theorem d_E_haveCommonWord_11 : decode b_E_haveCommonWord 11 = .ok (.iaload, 1) := by decide +kernel
theorem d_E_haveCommonWord_12 : decode b_E_haveCommonWord 12 = .ok (.ixor, 1) := by decide +kernel
theorem d_E_haveCommonWord_13 : decode b_E_haveCommonWord 13 = .ok (.aload_n 0, 1) := by decide +kernel
theorem d_E_haveCommonWord_14 : decode b_E_haveCommonWord 14 = .ok (.getfield 9, 3) := by decide +kernel
theorem d_E_haveCommonWord_17 : decode b_E_haveCommonWord 17 = .ok (.iload_n 1, 1) := by decide +kernel
theorem d_E_haveCommonWord_18 : decode b_E_haveCommonWord 18 = .ok (.iaload, 1) := by decide +kernel
theorem d_E_haveCommonWord_19 : decode b_E_haveCommonWord 19 = .ok (.iand, 1) := by decide +kernel
theorem d_E_haveCommonWord_20 : decode b_E_haveCommonWord 20 = .ok (.aload_n 0, 1) := by decide +kernel
theorem d_E_haveCommonWord_21 : decode b_E_haveCommonWord 21 = .ok (.getfield 9, 3) := by decide +kernel
theorem d_E_haveCommonWord_24 : decode b_E_haveCommonWord 24 = .ok (.iload_n 2, 1) := by decide +kernel
theorem d_E_haveCommonWord_25 : decode b_E_haveCommonWord 25 = .ok (.iaload, 1) := by decide +kernel
theorem d_E_haveCommonWord_26 : decode b_E_haveCommonWord 26 = .ok (.iand, 1) := by decide +kernel
theorem d_E_haveCommonWord_27 : decode b_E_haveCommonWord 27 = .ok (.ifCond .ne 7, 3) := by decide +kernel
theorem d_E_haveCommonWord_30 : decode b_E_haveCommonWord 30 = .ok (.iconst 1, 1) := by decide +kernel
theorem d_E_haveCommonWord_31 : decode b_E_haveCommonWord 31 = .ok (.goto 4, 3) := by decide +kernel
theorem d_E_haveCommonWord_34 : decode b_E_haveCommonWord 34 = .ok (.iconst 0, 1) := by decide +kernel
theorem d_E_haveCommonWord_35 : decode b_E_haveCommonWord 35 = .ok (.ireturn, 1) := by decide +kernel
theorem d_E_hasAllOf_0 : decode b_E_hasAllOf 0 = .ok (.aload_n 0, 1) := by decide +kernel
theorem d_E_hasAllOf_1 : decode b_E_hasAllOf 1 = .ok (.getfield 9, 3) := by decide +kernel
theorem d_E_hasAllOf_4 : decode b_E_hasAllOf 4 = .ok (.iload_n 1, 1) := by decide +kernel
theorem d_E_hasAllOf_5 : decode b_E_hasAllOf 5 = .ok (.iaload, 1) := by decide +kernel
theorem d_E_hasAllOf_6 : decode b_E_hasAllOf 6 = .ok (.aload_n 0, 1) := by decide +kernel
theorem d_E_hasAllOf_7 : decode b_E_hasAllOf 7 = .ok (.getfield 9, 3) := by decide +kernel
theorem d_E_hasAllOf_10 : decode b_E_hasAllOf 10 = .ok (.iload_n 2, 1) := by decide +kernel
theorem d_E_hasAllOf_11 : decode b_E_hasAllOf 11 = .ok (.iaload, 1) := by decide +kernel
theorem d_E_hasAllOf_12 : decode b_E_hasAllOf 12 = .ok (.iconst (-1), 1) := by decide +kernel
theorem d_E_hasAllOf_13 : decode b_E_hasAllOf 13 = .ok (.ixor, 1) := by decide +kernel
theorem d_E_hasAllOf_14 : decode b_E_hasAllOf 14 = .ok (.iand, 1) := by decide +kernel
theorem d_E_hasAllOf_15 : decode b_E_hasAllOf 15 = .ok (.ifCond .ne 7, 3) := by decide +kernel
theorem d_E_hasAllOf_18 : decode b_E_hasAllOf 18 = .ok (.iconst 1, 1) := by decide +kernel
theorem d_E_hasAllOf_19 : decode b_E_hasAllOf 19 = .ok (.goto 4, 3) := by decide +kernel
theorem d_E_hasAllOf_22 : decode b_E_hasAllOf 22 = .ok (.iconst 0, 1) := by decide +kernel
theorem d_E_hasAllOf_23 : decode b_E_hasAllOf 23 = .ok (.ireturn, 1) := by decide +kernel
theorem d_K_init_0 : decode b_K_init 0 = .ok (.aload_n 0, 1) := by decide +kernel
theorem d_K_init_1 : decode b_K_init 1 = .ok (.invokespecial 3, 3) := by decide +kernel
theorem d_K_init_4 : decode b_K_init 4 = .ok (.aload_n 0, 1) := by decide +kernel
theorem d_K_init_5 : decode b_K_init 5 = .ok (.bipush 16, 2) := by decide +kernel
theorem d_K_init_7 : decode b_K_init 7 = .ok (.newarray .int, 2) := by decide +kernel
theorem d_K_init_9 : decode b_K_init 9 = .ok (.putfield 9, 3) := by decide +kernel
theorem d_K_init_12 : decode b_K_init 12 = .ok (.aload_n 0, 1) := by decide +kernel
theorem d_K_init_13 : decode b_K_init 13 = .ok (.bipush 16, 2) := by decide +kernel
theorem d_K_init_15 : decode b_K_init 15 = .ok (.newarray .int, 2) := by decide +kernel
theorem d_K_init_17 : decode b_K_init 17 = .ok (.putfield 15, 3) := by decide +kernel
theorem d_K_init_20 : decode b_K_init 20 = .ok (.aload_n 0, 1) := by decide +kernel
theorem d_K_init_21 : decode b_K_init 21 = .ok (.bipush 16, 2) := by decide +kernel
theorem d_K_init_23 : decode b_K_init 23 = .ok (.newarray .int, 2) := by decide +kernel
theorem d_K_init_25 : decode b_K_init 25 = .ok (.putfield 18, 3) := by decide +kernel
theorem d_K_init_28 : decode b_K_init 28 = .ok (.aload_n 0, 1) := by decide +kernel
theorem d_K_init_29 : decode b_K_init 29 = .ok (.invokevirtual 21, 3) := by decide +kernel
theorem d_K_init_32 : decode b_K_init 32 = .ok (.return_, 1) := by decide +kernel
theorem d_K_clear_0 : decode b_K_clear 0 = .ok (.iconst 0, 1) := by decide +kernel
theorem d_K_clear_1 : decode b_K_clear 1 = .ok (.istore_n 1, 1) := by decide +kernel
theorem d_K_clear_2 : decode b_K_clear 2 = .ok (.iload_n 1, 1) := by decide +kernel
theorem d_K_clear_3 : decode b_K_clear 3 = .ok (.bipush 16, 2) := by decide +kernel
theorem d_K_clear_5 : decode b_K_clear 5 = .ok (.if_icmp .ge 16, 3) := by decide +kernel
theorem d_K_clear_8 : decode b_K_clear 8 = .ok (.aload_n 0, 1) := by decide +kernel
theorem d_K_clear_9 : decode b_K_clear 9 = .ok (.getfield 9, 3) := by decide +kernel
theorem d_K_clear_12 : decode b_K_clear 12 = .ok (.iload_n 1, 1) := by decide +kernel
theorem d_K_clear_13 : decode b_K_clear 13 = .ok (.iconst (-1), 1) := by decide +kernel
theorem d_K_clear_14 : decode b_K_clear 14 = .ok (.iastore, 1) := by decide +kernel
theorem d_K_clear_15 : decode b_K_clear 15 = .ok (.iinc 1 1, 3) := by decide +kernel
theorem d_K_clear_18 : decode b_K_clear 18 = .ok (.goto (-16), 3) := by decide +kernel
theorem d_K_clear_21 : decode b_K_clear 21 = .ok (.aload_n 0, 1) := by decide +kernel
theorem d_K_clear_22 : decode b_K_clear 22 = .ok (.iconst 0, 1) := by decide +kernel
theorem d_K_clear_23 : decode b_K_clear 23 = .ok (.putfield 24, 3) := by decide +kernel
theorem d_K_clear_26 : decode b_K_clear 26 = .ok (.return_, 1) := by decide +kernel
theorem d_K_size_0 : decode b_K_size 0 = .ok (.aload_n 0, 1) := by decide +kernel
theorem d_K_size_1 : decode b_K_size 1 = .ok (.getfield 24, 3) := by decide +kernel
theorem d_K_size_4 : decode b_K_size 4 = .ok (.ireturn, 1) := by decide +kernel
theorem d_K_rowOf_0 : decode b_K_rowOf 0 = .ok (.iload_n 0, 1) := by decide +kernel
theorem d_K_rowOf_1 : decode b_K_rowOf 1 = .ok (.bipush 15, 2) := by decide +kernel
theorem d_K_rowOf_3 : decode b_K_rowOf 3 = .ok (.iand, 1) := by decide +kernel
theorem d_K_rowOf_4 : decode b_K_rowOf 4 = .ok (.ireturn, 1) := by decide +kernel
theorem d_K_holds_0 : decode b_K_holds 0 = .ok (.iload_n 1, 1) := by decide +kernel
theorem d_K_holds_1 : decode b_K_holds 1 = .ok (.invokestatic 28, 3) := by decide +kernel
theorem d_K_holds_4 : decode b_K_holds 4 = .ok (.istore_n 3, 1) := by decide +kernel
theorem d_K_holds_5 : decode b_K_holds 5 = .ok (.aload_n 0, 1) := by decide +kernel
theorem d_K_holds_6 : decode b_K_holds 6 = .ok (.getfield 9, 3) := by decide +kernel
theorem d_K_holds_9 : decode b_K_holds 9 = .ok (.iload_n 3, 1) := by decide +kernel
theorem d_K_holds_10 : decode b_K_holds 10 = .ok (.iaload, 1) := by decide +kernel
theorem d_K_holds_11 : decode b_K_holds 11 = .ok (.iload_n 1, 1) := by decide +kernel
theorem d_K_holds_12 : decode b_K_holds 12 = .ok (.if_icmp .ne 17, 3) := by decide +kernel
theorem d_K_holds_15 : decode b_K_holds 15 = .ok (.aload_n 0, 1) := by decide +kernel
theorem d_K_holds_16 : decode b_K_holds 16 = .ok (.getfield 15, 3) := by decide +kernel
theorem d_K_holds_19 : decode b_K_holds 19 = .ok (.iload_n 3, 1) := by decide +kernel
theorem d_K_holds_20 : decode b_K_holds 20 = .ok (.iaload, 1) := by decide +kernel
theorem d_K_holds_21 : decode b_K_holds 21 = .ok (.iload_n 2, 1) := by decide +kernel
theorem d_K_holds_22 : decode b_K_holds 22 = .ok (.if_icmp .ne 7, 3) := by decide +kernel
theorem d_K_holds_25 : decode b_K_holds 25 = .ok (.iconst 1, 1) := by decide +kernel
theorem d_K_holds_26 : decode b_K_holds 26 = .ok (.goto 4, 3) := by decide +kernel
theorem d_K_holds_29 : decode b_K_holds 29 = .ok (.iconst 0, 1) := by decide +kernel
theorem d_K_holds_30 : decode b_K_holds 30 = .ok (.ireturn, 1) := by decide +kernel
theorem d_K_answerOf_0 : decode b_K_answerOf 0 = .ok (.aload_n 0, 1) := by decide +kernel
theorem d_K_answerOf_1 : decode b_K_answerOf 1 = .ok (.getfield 18, 3) := by decide +kernel
theorem d_K_answerOf_4 : decode b_K_answerOf 4 = .ok (.iload_n 1, 1) := by decide +kernel
theorem d_K_answerOf_5 : decode b_K_answerOf 5 = .ok (.invokestatic 28, 3) := by decide +kernel
theorem d_K_answerOf_8 : decode b_K_answerOf 8 = .ok (.iaload, 1) := by decide +kernel
theorem d_K_answerOf_9 : decode b_K_answerOf 9 = .ok (.ireturn, 1) := by decide +kernel
theorem d_K_put_0 : decode b_K_put 0 = .ok (.iload_n 1, 1) := by decide +kernel
theorem d_K_put_1 : decode b_K_put 1 = .ok (.invokestatic 28, 3) := by decide +kernel
theorem d_K_put_4 : decode b_K_put 4 = .ok (.istore 4, 2) := by decide +kernel
theorem d_K_put_6 : decode b_K_put 6 = .ok (.aload_n 0, 1) := by decide +kernel
theorem d_K_put_7 : decode b_K_put 7 = .ok (.getfield 9, 3) := by decide +kernel
theorem d_K_put_10 : decode b_K_put 10 = .ok (.iload 4, 2) := by decide +kernel
theorem d_K_put_12 : decode b_K_put 12 = .ok (.iaload, 1) := by decide +kernel
theorem d_K_put_13 : decode b_K_put 13 = .ok (.iconst (-1), 1) := by decide +kernel
theorem d_K_put_14 : decode b_K_put 14 = .ok (.if_icmp .ne 13, 3) := by decide +kernel
theorem d_K_put_17 : decode b_K_put 17 = .ok (.aload_n 0, 1) := by decide +kernel
theorem d_K_put_18 : decode b_K_put 18 = .ok (.dup, 1) := by decide +kernel
theorem d_K_put_19 : decode b_K_put 19 = .ok (.getfield 24, 3) := by decide +kernel
theorem d_K_put_22 : decode b_K_put 22 = .ok (.iconst 1, 1) := by decide +kernel
theorem d_K_put_23 : decode b_K_put 23 = .ok (.iadd, 1) := by decide +kernel
theorem d_K_put_24 : decode b_K_put 24 = .ok (.putfield 24, 3) := by decide +kernel
theorem d_K_put_27 : decode b_K_put 27 = .ok (.aload_n 0, 1) := by decide +kernel
theorem d_K_put_28 : decode b_K_put 28 = .ok (.getfield 9, 3) := by decide +kernel
theorem d_K_put_31 : decode b_K_put 31 = .ok (.iload 4, 2) := by decide +kernel
theorem d_K_put_33 : decode b_K_put 33 = .ok (.iload_n 1, 1) := by decide +kernel
theorem d_K_put_34 : decode b_K_put 34 = .ok (.iastore, 1) := by decide +kernel
theorem d_K_put_35 : decode b_K_put 35 = .ok (.aload_n 0, 1) := by decide +kernel
theorem d_K_put_36 : decode b_K_put 36 = .ok (.getfield 15, 3) := by decide +kernel
theorem d_K_put_39 : decode b_K_put 39 = .ok (.iload 4, 2) := by decide +kernel
theorem d_K_put_41 : decode b_K_put 41 = .ok (.iload_n 2, 1) := by decide +kernel
theorem d_K_put_42 : decode b_K_put 42 = .ok (.iastore, 1) := by decide +kernel
theorem d_K_put_43 : decode b_K_put 43 = .ok (.aload_n 0, 1) := by decide +kernel
theorem d_K_put_44 : decode b_K_put 44 = .ok (.getfield 18, 3) := by decide +kernel
theorem d_K_put_47 : decode b_K_put 47 = .ok (.iload 4, 2) := by decide +kernel
theorem d_K_put_49 : decode b_K_put 49 = .ok (.iload_n 3, 1) := by decide +kernel
theorem d_K_put_50 : decode b_K_put 50 = .ok (.iastore, 1) := by decide +kernel
theorem d_K_put_51 : decode b_K_put 51 = .ok (.return_, 1) := by decide +kernel
theorem d_T_init_0 : decode b_T_init 0 = .ok (.aload_n 0, 1) := by decide +kernel
theorem d_T_init_1 : decode b_T_init 1 = .ok (.invokespecial 3, 3) := by decide +kernel
theorem d_T_init_4 : decode b_T_init 4 = .ok (.aload_n 0, 1) := by decide +kernel
theorem d_T_init_5 : decode b_T_init 5 = .ok (.iload_n 1, 1) := by decide +kernel
theorem d_T_init_6 : decode b_T_init 6 = .ok (.putfield 9, 3) := by decide +kernel
theorem d_T_init_9 : decode b_T_init 9 = .ok (.aload_n 0, 1) := by decide +kernel
theorem d_T_init_10 : decode b_T_init 10 = .ok (.getstatic 15, 3) := by decide +kernel
theorem d_T_init_13 : decode b_T_init 13 = .ok (.iload_n 1, 1) := by decide +kernel
theorem d_T_init_14 : decode b_T_init 14 = .ok (.iaload, 1) := by decide +kernel
theorem d_T_init_15 : decode b_T_init 15 = .ok (.putfield 19, 3) := by decide +kernel
theorem d_T_init_18 : decode b_T_init 18 = .ok (.aload_n 0, 1) := by decide +kernel
theorem d_T_init_19 : decode b_T_init 19 = .ok (.aload_n 0, 1) := by decide +kernel
theorem d_T_init_20 : decode b_T_init 20 = .ok (.getfield 19, 3) := by decide +kernel
theorem d_T_init_23 : decode b_T_init 23 = .ok (.newarray .int, 2) := by decide +kernel
theorem d_T_init_25 : decode b_T_init 25 = .ok (.putfield 22, 3) := by decide +kernel
theorem d_T_init_28 : decode b_T_init 28 = .ok (.aload_n 0, 1) := by decide +kernel
theorem d_T_init_29 : decode b_T_init 29 = .ok (.aload_n 0, 1) := by decide +kernel
theorem d_T_init_30 : decode b_T_init 30 = .ok (.getfield 19, 3) := by decide +kernel
theorem d_T_init_33 : decode b_T_init 33 = .ok (.newarray .int, 2) := by decide +kernel
theorem d_T_init_35 : decode b_T_init 35 = .ok (.putfield 25, 3) := by decide +kernel
theorem d_T_init_38 : decode b_T_init 38 = .ok (.aload_n 0, 1) := by decide +kernel
theorem d_T_init_39 : decode b_T_init 39 = .ok (.aload_n 0, 1) := by decide +kernel
theorem d_T_init_40 : decode b_T_init 40 = .ok (.getfield 19, 3) := by decide +kernel
theorem d_T_init_43 : decode b_T_init 43 = .ok (.newarray .int, 2) := by decide +kernel
theorem d_T_init_45 : decode b_T_init 45 = .ok (.putfield 28, 3) := by decide +kernel
theorem d_T_init_48 : decode b_T_init 48 = .ok (.return_, 1) := by decide +kernel
theorem d_T_outdate_0 : decode b_T_outdate 0 = .ok (.aload_n 0, 1) := by decide +kernel
theorem d_T_outdate_1 : decode b_T_outdate 1 = .ok (.iconst 0, 1) := by decide +kernel
theorem d_T_outdate_2 : decode b_T_outdate 2 = .ok (.putfield 31, 3) := by decide +kernel
theorem d_T_outdate_5 : decode b_T_outdate 5 = .ok (.return_, 1) := by decide +kernel
theorem d_T_refresh_0 : decode b_T_refresh 0 = .ok (.aload_n 0, 1) := by decide +kernel
theorem d_T_refresh_1 : decode b_T_refresh 1 = .ok (.getfield 31, 3) := by decide +kernel
theorem d_T_refresh_4 : decode b_T_refresh 4 = .ok (.ifCond .eq 4, 3) := by decide +kernel
theorem d_T_refresh_7 : decode b_T_refresh 7 = .ok (.return_, 1) := by decide +kernel
theorem d_T_refresh_8 : decode b_T_refresh 8 = .ok (.iconst 0, 1) := by decide +kernel
theorem d_T_refresh_9 : decode b_T_refresh 9 = .ok (.istore_n 2, 1) := by decide +kernel
theorem d_T_refresh_10 : decode b_T_refresh 10 = .ok (.iconst 0, 1) := by decide +kernel
theorem d_T_refresh_11 : decode b_T_refresh 11 = .ok (.istore_n 3, 1) := by decide +kernel
theorem d_T_refresh_12 : decode b_T_refresh 12 = .ok (.iconst 0, 1) := by decide +kernel
theorem d_T_refresh_13 : decode b_T_refresh 13 = .ok (.istore 4, 2) := by decide +kernel
theorem d_T_refresh_15 : decode b_T_refresh 15 = .ok (.iload 4, 2) := by decide +kernel
theorem d_T_refresh_17 : decode b_T_refresh 17 = .ok (.aload_n 0, 1) := by decide +kernel
theorem d_T_refresh_18 : decode b_T_refresh 18 = .ok (.getfield 19, 3) := by decide +kernel
theorem d_T_refresh_21 : decode b_T_refresh 21 = .ok (.if_icmp .ge 82, 3) := by decide +kernel
theorem d_T_refresh_24 : decode b_T_refresh 24 = .ok (.aload_n 0, 1) := by decide +kernel
theorem d_T_refresh_25 : decode b_T_refresh 25 = .ok (.getfield 22, 3) := by decide +kernel
theorem d_T_refresh_28 : decode b_T_refresh 28 = .ok (.iload 4, 2) := by decide +kernel
theorem d_T_refresh_30 : decode b_T_refresh 30 = .ok (.iload_n 2, 1) := by decide +kernel
theorem d_T_refresh_31 : decode b_T_refresh 31 = .ok (.ifCond .ne 11, 3) := by decide +kernel
theorem d_T_refresh_34 : decode b_T_refresh 34 = .ok (.aload_n 1, 1) := by decide +kernel
theorem d_T_refresh_35 : decode b_T_refresh 35 = .ok (.iload_n 3, 1) := by decide +kernel
theorem d_T_refresh_36 : decode b_T_refresh 36 = .ok (.invokevirtual 35, 3) := by decide +kernel
theorem d_T_refresh_39 : decode b_T_refresh 39 = .ok (.goto 10, 3) := by decide +kernel
theorem d_T_refresh_42 : decode b_T_refresh 42 = .ok (.aload_n 0, 1) := by decide +kernel
theorem d_T_refresh_43 : decode b_T_refresh 43 = .ok (.iload 4, 2) := by decide +kernel
theorem d_T_refresh_45 : decode b_T_refresh 45 = .ok (.iload_n 2, 1) := by decide +kernel
theorem d_T_refresh_46 : decode b_T_refresh 46 = .ok (.invokevirtual 41, 3) := by decide +kernel
theorem d_T_refresh_49 : decode b_T_refresh 49 = .ok (.iastore, 1) := by decide +kernel
theorem d_T_refresh_50 : decode b_T_refresh 50 = .ok (.aload_n 0, 1) := by decide +kernel
theorem d_T_refresh_51 : decode b_T_refresh 51 = .ok (.iload 4, 2) := by decide +kernel
theorem d_T_refresh_53 : decode b_T_refresh 53 = .ok (.iload_n 2, 1) := by decide +kernel
theorem d_T_refresh_54 : decode b_T_refresh 54 = .ok (.invokevirtual 45, 3) := by decide +kernel
theorem d_T_refresh_57 : decode b_T_refresh 57 = .ok (.iload_n 2, 1) := by decide +kernel
theorem d_T_refresh_58 : decode b_T_refresh 58 = .ok (.iconst (-1), 1) := by decide +kernel
theorem d_T_refresh_59 : decode b_T_refresh 59 = .ok (.ixor, 1) := by decide +kernel
theorem d_T_refresh_60 : decode b_T_refresh 60 = .ok (.iload_n 2, 1) := by decide +kernel
theorem d_T_refresh_61 : decode b_T_refresh 61 = .ok (.iconst 1, 1) := by decide +kernel
theorem d_T_refresh_62 : decode b_T_refresh 62 = .ok (.iadd, 1) := by decide +kernel
theorem d_T_refresh_63 : decode b_T_refresh 63 = .ok (.iand, 1) := by decide +kernel
theorem d_T_refresh_64 : decode b_T_refresh 64 = .ok (.istore 5, 2) := by decide +kernel
theorem d_T_refresh_66 : decode b_T_refresh 66 = .ok (.iload_n 2, 1) := by decide +kernel
theorem d_T_refresh_67 : decode b_T_refresh 67 = .ok (.iload 5, 2) := by decide +kernel
theorem d_T_refresh_69 : decode b_T_refresh 69 = .ok (.ineg, 1) := by decide +kernel
theorem d_T_refresh_70 : decode b_T_refresh 70 = .ok (.iand, 1) := by decide +kernel
theorem d_T_refresh_71 : decode b_T_refresh 71 = .ok (.istore_n 2, 1) := by decide +kernel
theorem d_T_refresh_72 : decode b_T_refresh 72 = .ok (.iload_n 3, 1) := by decide +kernel
theorem d_T_refresh_73 : decode b_T_refresh 73 = .ok (.iload 5, 2) := by decide +kernel
theorem d_T_refresh_75 : decode b_T_refresh 75 = .ok (.iand, 1) := by decide +kernel
theorem d_T_refresh_76 : decode b_T_refresh 76 = .ok (.ifCond .ne 11, 3) := by decide +kernel
theorem d_T_refresh_79 : decode b_T_refresh 79 = .ok (.iload_n 3, 1) := by decide +kernel
theorem d_T_refresh_80 : decode b_T_refresh 80 = .ok (.iload 5, 2) := by decide +kernel
theorem d_T_refresh_82 : decode b_T_refresh 82 = .ok (.ior, 1) := by decide +kernel
theorem d_T_refresh_83 : decode b_T_refresh 83 = .ok (.istore_n 3, 1) := by decide +kernel
theorem d_T_refresh_84 : decode b_T_refresh 84 = .ok (.goto 13, 3) := by decide +kernel
theorem d_T_refresh_87 : decode b_T_refresh 87 = .ok (.iload_n 3, 1) := by decide +kernel
theorem d_T_refresh_88 : decode b_T_refresh 88 = .ok (.iload 5, 2) := by decide +kernel
theorem d_T_refresh_90 : decode b_T_refresh 90 = .ok (.ixor, 1) := by decide +kernel
theorem d_T_refresh_91 : decode b_T_refresh 91 = .ok (.istore_n 3, 1) := by decide +kernel
theorem d_T_refresh_92 : decode b_T_refresh 92 = .ok (.iload_n 2, 1) := by decide +kernel
theorem d_T_refresh_93 : decode b_T_refresh 93 = .ok (.iload 5, 2) := by decide +kernel
theorem d_T_refresh_95 : decode b_T_refresh 95 = .ok (.ior, 1) := by decide +kernel
theorem d_T_refresh_96 : decode b_T_refresh 96 = .ok (.istore_n 2, 1) := by decide +kernel
theorem d_T_refresh_97 : decode b_T_refresh 97 = .ok (.iinc 4 1, 3) := by decide +kernel
theorem d_T_refresh_100 : decode b_T_refresh 100 = .ok (.goto (-85), 3) := by decide +kernel
theorem d_T_refresh_103 : decode b_T_refresh 103 = .ok (.aload_n 0, 1) := by decide +kernel
theorem d_T_refresh_104 : decode b_T_refresh 104 = .ok (.iconst 1, 1) := by decide +kernel
theorem d_T_refresh_105 : decode b_T_refresh 105 = .ok (.putfield 31, 3) := by decide +kernel
theorem d_T_refresh_108 : decode b_T_refresh 108 = .ok (.return_, 1) := by decide +kernel
theorem d_T_allWords_0 : decode b_T_allWords 0 = .ok (.aload_n 0, 1) := by decide +kernel
theorem d_T_allWords_1 : decode b_T_allWords 1 = .ok (.getfield 19, 3) := by decide +kernel
theorem d_T_allWords_4 : decode b_T_allWords 4 = .ok (.iconst 1, 1) := by decide +kernel
theorem d_T_allWords_5 : decode b_T_allWords 5 = .ok (.isub, 1) := by decide +kernel
theorem d_T_allWords_6 : decode b_T_allWords 6 = .ok (.ireturn, 1) := by decide +kernel
theorem d_T_listOf_0 : decode b_T_listOf 0 = .ok (.aload_n 0, 1) := by decide +kernel
theorem d_T_listOf_1 : decode b_T_listOf 1 = .ok (.getfield 22, 3) := by decide +kernel
theorem d_T_listOf_4 : decode b_T_listOf 4 = .ok (.iload_n 1, 1) := by decide +kernel
theorem d_T_listOf_5 : decode b_T_listOf 5 = .ok (.iaload, 1) := by decide +kernel
theorem d_T_listOf_6 : decode b_T_listOf 6 = .ok (.ireturn, 1) := by decide +kernel
theorem d_T_side_0 : decode b_T_side 0 = .ok (.iload_n 0, 1) := by decide +kernel
theorem d_T_side_1 : decode b_T_side 1 = .ok (.iconst 2, 1) := by decide +kernel
theorem d_T_side_2 : decode b_T_side 2 = .ok (.iload_n 2, 1) := by decide +kernel
theorem d_T_side_3 : decode b_T_side 3 = .ok (.isub, 1) := by decide +kernel
theorem d_T_side_4 : decode b_T_side 4 = .ok (.getstatic 15, 3) := by decide +kernel
theorem d_T_side_7 : decode b_T_side 7 = .ok (.iload_n 1, 1) := by decide +kernel
theorem d_T_side_8 : decode b_T_side 8 = .ok (.iaload, 1) := by decide +kernel
theorem d_T_side_9 : decode b_T_side 9 = .ok (.imul, 1) := by decide +kernel
theorem d_T_side_10 : decode b_T_side 10 = .ok (.isub, 1) := by decide +kernel
theorem d_T_side_11 : decode b_T_side 11 = .ok (.ireturn, 1) := by decide +kernel
theorem d_T_commonOfSides_0 : decode b_T_commonOfSides 0 = .ok (.iload_n 2, 1) := by decide +kernel
theorem d_T_commonOfSides_1 : decode b_T_commonOfSides 1 = .ok (.invokestatic 49, 3) := by decide +kernel
theorem d_T_commonOfSides_4 : decode b_T_commonOfSides 4 = .ok (.istore_n 3, 1) := by decide +kernel
theorem d_T_commonOfSides_5 : decode b_T_commonOfSides 5 = .ok (.aload_n 0, 1) := by decide +kernel
theorem d_T_commonOfSides_6 : decode b_T_commonOfSides 6 = .ok (.getfield 22, 3) := by decide +kernel
theorem d_T_commonOfSides_9 : decode b_T_commonOfSides 9 = .ok (.iload_n 1, 1) := by decide +kernel
theorem d_T_commonOfSides_10 : decode b_T_commonOfSides 10 = .ok (.iload_n 3, 1) := by decide +kernel
theorem d_T_commonOfSides_11 : decode b_T_commonOfSides 11 = .ok (.iconst 0, 1) := by decide +kernel
theorem d_T_commonOfSides_12 : decode b_T_commonOfSides 12 = .ok (.invokestatic 54, 3) := by decide +kernel
theorem d_T_commonOfSides_15 : decode b_T_commonOfSides 15 = .ok (.iaload, 1) := by decide +kernel
theorem d_T_commonOfSides_16 : decode b_T_commonOfSides 16 = .ok (.istore 4, 2) := by decide +kernel
theorem d_T_commonOfSides_18 : decode b_T_commonOfSides 18 = .ok (.iload 4, 2) := by decide +kernel
theorem d_T_commonOfSides_20 : decode b_T_commonOfSides 20 = .ok (.aload_n 0, 1) := by decide +kernel
theorem d_T_commonOfSides_21 : decode b_T_commonOfSides 21 = .ok (.getfield 22, 3) := by decide +kernel
theorem d_T_commonOfSides_24 : decode b_T_commonOfSides 24 = .ok (.iload_n 1, 1) := by decide +kernel
theorem d_T_commonOfSides_25 : decode b_T_commonOfSides 25 = .ok (.iload_n 3, 1) := by decide +kernel
theorem d_T_commonOfSides_26 : decode b_T_commonOfSides 26 = .ok (.iconst 1, 1) := by decide +kernel
theorem d_T_commonOfSides_27 : decode b_T_commonOfSides 27 = .ok (.invokestatic 54, 3) := by decide +kernel
theorem d_T_commonOfSides_30 : decode b_T_commonOfSides 30 = .ok (.iaload, 1) := by decide +kernel
theorem d_T_commonOfSides_31 : decode b_T_commonOfSides 31 = .ok (.if_icmp .ne 8, 3) := by decide +kernel
theorem d_T_commonOfSides_34 : decode b_T_commonOfSides 34 = .ok (.iload 4, 2) := by decide +kernel
theorem d_T_commonOfSides_36 : decode b_T_commonOfSides 36 = .ok (.goto 4, 3) := by decide +kernel
theorem d_T_commonOfSides_39 : decode b_T_commonOfSides 39 = .ok (.iconst (-1), 1) := by decide +kernel
theorem d_T_commonOfSides_40 : decode b_T_commonOfSides 40 = .ok (.ireturn, 1) := by decide +kernel
theorem d_T_weigh_0 : decode b_T_weigh 0 = .ok (.aload_n 0, 1) := by decide +kernel
theorem d_T_weigh_1 : decode b_T_weigh 1 = .ok (.getfield 25, 3) := by decide +kernel
theorem d_T_weigh_4 : decode b_T_weigh 4 = .ok (.iload_n 1, 1) := by decide +kernel
theorem d_T_weigh_5 : decode b_T_weigh 5 = .ok (.iconst 0, 1) := by decide +kernel
theorem d_T_weigh_6 : decode b_T_weigh 6 = .ok (.iastore, 1) := by decide +kernel
theorem d_T_weigh_7 : decode b_T_weigh 7 = .ok (.aload_n 0, 1) := by decide +kernel
theorem d_T_weigh_8 : decode b_T_weigh 8 = .ok (.getfield 28, 3) := by decide +kernel
theorem d_T_weigh_11 : decode b_T_weigh 11 = .ok (.iload_n 1, 1) := by decide +kernel
theorem d_T_weigh_12 : decode b_T_weigh 12 = .ok (.iconst 0, 1) := by decide +kernel
theorem d_T_weigh_13 : decode b_T_weigh 13 = .ok (.iastore, 1) := by decide +kernel
theorem d_T_weigh_14 : decode b_T_weigh 14 = .ok (.aload_n 0, 1) := by decide +kernel
theorem d_T_weigh_15 : decode b_T_weigh 15 = .ok (.getfield 22, 3) := by decide +kernel
theorem d_T_weigh_18 : decode b_T_weigh 18 = .ok (.iload_n 1, 1) := by decide +kernel
theorem d_T_weigh_19 : decode b_T_weigh 19 = .ok (.iaload, 1) := by decide +kernel
theorem d_T_weigh_20 : decode b_T_weigh 20 = .ok (.iconst (-1), 1) := by decide +kernel
theorem d_T_weigh_21 : decode b_T_weigh 21 = .ok (.if_icmp .eq 4, 3) := by decide +kernel
theorem d_T_weigh_24 : decode b_T_weigh 24 = .ok (.return_, 1) := by decide +kernel
theorem d_T_weigh_25 : decode b_T_weigh 25 = .ok (.ldc 58, 2) := by decide +kernel
theorem d_T_weigh_27 : decode b_T_weigh 27 = .ok (.istore_n 3, 1) := by decide +kernel
theorem d_T_weigh_28 : decode b_T_weigh 28 = .ok (.ldc 58, 2) := by decide +kernel
theorem d_T_weigh_30 : decode b_T_weigh 30 = .ok (.istore 4, 2) := by decide +kernel
theorem d_T_weigh_32 : decode b_T_weigh 32 = .ok (.iconst 0, 1) := by decide +kernel
theorem d_T_weigh_33 : decode b_T_weigh 33 = .ok (.istore 5, 2) := by decide +kernel
theorem d_T_weigh_35 : decode b_T_weigh 35 = .ok (.iload 5, 2) := by decide +kernel
theorem d_T_weigh_37 : decode b_T_weigh 37 = .ok (.aload_n 0, 1) := by decide +kernel
theorem d_T_weigh_38 : decode b_T_weigh 38 = .ok (.getfield 9, 3) := by decide +kernel
theorem d_T_weigh_41 : decode b_T_weigh 41 = .ok (.if_icmp .ge 107, 3) := by decide +kernel
theorem d_T_weigh_44 : decode b_T_weigh 44 = .ok (.iload_n 2, 1) := by decide +kernel
theorem d_T_weigh_45 : decode b_T_weigh 45 = .ok (.iload 5, 2) := by decide +kernel
theorem d_T_weigh_47 : decode b_T_weigh 47 = .ok (.ishr, 1) := by decide +kernel
theorem d_T_weigh_48 : decode b_T_weigh 48 = .ok (.iconst 1, 1) := by decide +kernel
theorem d_T_weigh_49 : decode b_T_weigh 49 = .ok (.iand, 1) := by decide +kernel
theorem d_T_weigh_50 : decode b_T_weigh 50 = .ok (.iconst 1, 1) := by decide +kernel
theorem d_T_weigh_51 : decode b_T_weigh 51 = .ok (.if_icmp .ne 91, 3) := by decide +kernel
theorem d_T_weigh_54 : decode b_T_weigh 54 = .ok (.iload_n 1, 1) := by decide +kernel
theorem d_T_weigh_55 : decode b_T_weigh 55 = .ok (.iload 5, 2) := by decide +kernel
theorem d_T_weigh_57 : decode b_T_weigh 57 = .ok (.iconst 0, 1) := by decide +kernel
theorem d_T_weigh_58 : decode b_T_weigh 58 = .ok (.invokestatic 54, 3) := by decide +kernel
theorem d_T_weigh_61 : decode b_T_weigh 61 = .ok (.istore 6, 2) := by decide +kernel
theorem d_T_weigh_63 : decode b_T_weigh 63 = .ok (.iload_n 1, 1) := by decide +kernel
theorem d_T_weigh_64 : decode b_T_weigh 64 = .ok (.iload 5, 2) := by decide +kernel
theorem d_T_weigh_66 : decode b_T_weigh 66 = .ok (.iconst 1, 1) := by decide +kernel
theorem d_T_weigh_67 : decode b_T_weigh 67 = .ok (.invokestatic 54, 3) := by decide +kernel
theorem d_T_weigh_70 : decode b_T_weigh 70 = .ok (.istore 7, 2) := by decide +kernel
theorem d_T_weigh_72 : decode b_T_weigh 72 = .ok (.aload_n 0, 1) := by decide +kernel
theorem d_T_weigh_73 : decode b_T_weigh 73 = .ok (.getfield 25, 3) := by decide +kernel
theorem d_T_weigh_76 : decode b_T_weigh 76 = .ok (.iload 6, 2) := by decide +kernel
theorem d_T_weigh_78 : decode b_T_weigh 78 = .ok (.iaload, 1) := by decide +kernel
theorem d_T_weigh_79 : decode b_T_weigh 79 = .ok (.iconst 3, 1) := by decide +kernel
theorem d_T_weigh_80 : decode b_T_weigh 80 = .ok (.ishr, 1) := by decide +kernel
theorem d_T_weigh_81 : decode b_T_weigh 81 = .ok (.aload_n 0, 1) := by decide +kernel
theorem d_T_weigh_82 : decode b_T_weigh 82 = .ok (.getfield 25, 3) := by decide +kernel
theorem d_T_weigh_85 : decode b_T_weigh 85 = .ok (.iload 7, 2) := by decide +kernel
theorem d_T_weigh_87 : decode b_T_weigh 87 = .ok (.iaload, 1) := by decide +kernel
theorem d_T_weigh_88 : decode b_T_weigh 88 = .ok (.iconst 3, 1) := by decide +kernel
theorem d_T_weigh_89 : decode b_T_weigh 89 = .ok (.ishr, 1) := by decide +kernel
theorem d_T_weigh_90 : decode b_T_weigh 90 = .ok (.invokestatic 59, 3) := by decide +kernel
theorem d_T_weigh_93 : decode b_T_weigh 93 = .ok (.istore 8, 2) := by decide +kernel
theorem d_T_weigh_95 : decode b_T_weigh 95 = .ok (.aload_n 0, 1) := by decide +kernel
theorem d_T_weigh_96 : decode b_T_weigh 96 = .ok (.getfield 28, 3) := by decide +kernel
theorem d_T_weigh_99 : decode b_T_weigh 99 = .ok (.iload 6, 2) := by decide +kernel
theorem d_T_weigh_101 : decode b_T_weigh 101 = .ok (.iaload, 1) := by decide +kernel
theorem d_T_weigh_102 : decode b_T_weigh 102 = .ok (.iconst 3, 1) := by decide +kernel
theorem d_T_weigh_103 : decode b_T_weigh 103 = .ok (.ishr, 1) := by decide +kernel
theorem d_T_weigh_104 : decode b_T_weigh 104 = .ok (.aload_n 0, 1) := by decide +kernel
theorem d_T_weigh_105 : decode b_T_weigh 105 = .ok (.getfield 28, 3) := by decide +kernel
theorem d_T_weigh_108 : decode b_T_weigh 108 = .ok (.iload 7, 2) := by decide +kernel
theorem d_T_weigh_110 : decode b_T_weigh 110 = .ok (.iaload, 1) := by decide +kernel
theorem d_T_weigh_111 : decode b_T_weigh 111 = .ok (.iconst 3, 1) := by decide +kernel
theorem d_T_weigh_112 : decode b_T_weigh 112 = .ok (.ishr, 1) := by decide +kernel
theorem d_T_weigh_113 : decode b_T_weigh 113 = .ok (.iadd, 1) := by decide +kernel
theorem d_T_weigh_114 : decode b_T_weigh 114 = .ok (.istore 9, 2) := by decide +kernel
theorem d_T_weigh_116 : decode b_T_weigh 116 = .ok (.iload_n 3, 1) := by decide +kernel
theorem d_T_weigh_117 : decode b_T_weigh 117 = .ok (.iload 8, 2) := by decide +kernel
theorem d_T_weigh_119 : decode b_T_weigh 119 = .ok (.iconst 3, 1) := by decide +kernel
theorem d_T_weigh_120 : decode b_T_weigh 120 = .ok (.ishl, 1) := by decide +kernel
theorem d_T_weigh_121 : decode b_T_weigh 121 = .ok (.iload 5, 2) := by decide +kernel
theorem d_T_weigh_123 : decode b_T_weigh 123 = .ok (.ior, 1) := by decide +kernel
theorem d_T_weigh_124 : decode b_T_weigh 124 = .ok (.invokestatic 64, 3) := by decide +kernel
theorem d_T_weigh_127 : decode b_T_weigh 127 = .ok (.istore_n 3, 1) := by decide +kernel
theorem d_T_weigh_128 : decode b_T_weigh 128 = .ok (.iload 4, 2) := by decide +kernel
theorem d_T_weigh_130 : decode b_T_weigh 130 = .ok (.iload 9, 2) := by decide +kernel
theorem d_T_weigh_132 : decode b_T_weigh 132 = .ok (.iconst 3, 1) := by decide +kernel
theorem d_T_weigh_133 : decode b_T_weigh 133 = .ok (.ishl, 1) := by decide +kernel
theorem d_T_weigh_134 : decode b_T_weigh 134 = .ok (.iload 5, 2) := by decide +kernel
theorem d_T_weigh_136 : decode b_T_weigh 136 = .ok (.ior, 1) := by decide +kernel
theorem d_T_weigh_137 : decode b_T_weigh 137 = .ok (.invokestatic 64, 3) := by decide +kernel
theorem d_T_weigh_140 : decode b_T_weigh 140 = .ok (.istore 4, 2) := by decide +kernel
theorem d_T_weigh_142 : decode b_T_weigh 142 = .ok (.iinc 5 1, 3) := by decide +kernel
theorem d_T_weigh_145 : decode b_T_weigh 145 = .ok (.goto (-110), 3) := by decide +kernel
theorem d_T_weigh_148 : decode b_T_weigh 148 = .ok (.iconst 1, 1) := by decide +kernel
theorem d_T_weigh_149 : decode b_T_weigh 149 = .ok (.iload_n 2, 1) := by decide +kernel
theorem d_T_weigh_150 : decode b_T_weigh 150 = .ok (.invokestatic 67, 3) := by decide +kernel
theorem d_T_weigh_153 : decode b_T_weigh 153 = .ok (.ishl, 1) := by decide +kernel
theorem d_T_weigh_154 : decode b_T_weigh 154 = .ok (.istore 5, 2) := by decide +kernel
theorem d_T_weigh_156 : decode b_T_weigh 156 = .ok (.aload_n 0, 1) := by decide +kernel
theorem d_T_weigh_157 : decode b_T_weigh 157 = .ok (.getfield 25, 3) := by decide +kernel
theorem d_T_weigh_160 : decode b_T_weigh 160 = .ok (.iload_n 1, 1) := by decide +kernel
theorem d_T_weigh_161 : decode b_T_weigh 161 = .ok (.iload_n 3, 1) := by decide +kernel
theorem d_T_weigh_162 : decode b_T_weigh 162 = .ok (.bipush 8, 2) := by decide +kernel
theorem d_T_weigh_164 : decode b_T_weigh 164 = .ok (.iadd, 1) := by decide +kernel
theorem d_T_weigh_165 : decode b_T_weigh 165 = .ok (.iastore, 1) := by decide +kernel
theorem d_T_weigh_166 : decode b_T_weigh 166 = .ok (.aload_n 0, 1) := by decide +kernel
theorem d_T_weigh_167 : decode b_T_weigh 167 = .ok (.getfield 28, 3) := by decide +kernel
theorem d_T_weigh_170 : decode b_T_weigh 170 = .ok (.iload_n 1, 1) := by decide +kernel
theorem d_T_weigh_171 : decode b_T_weigh 171 = .ok (.iload 4, 2) := by decide +kernel
theorem d_T_weigh_173 : decode b_T_weigh 173 = .ok (.iload 5, 2) := by decide +kernel
theorem d_T_weigh_175 : decode b_T_weigh 175 = .ok (.iconst 3, 1) := by decide +kernel
theorem d_T_weigh_176 : decode b_T_weigh 176 = .ok (.ishl, 1) := by decide +kernel
theorem d_T_weigh_177 : decode b_T_weigh 177 = .ok (.iadd, 1) := by decide +kernel
theorem d_T_weigh_178 : decode b_T_weigh 178 = .ok (.iastore, 1) := by decide +kernel
theorem d_T_weigh_179 : decode b_T_weigh 179 = .ok (.return_, 1) := by decide +kernel
theorem d_T_choice_0 : decode b_T_choice 0 = .ok (.iload_n 3, 1) := by decide +kernel
theorem d_T_choice_1 : decode b_T_choice 1 = .ok (.aload_n 0, 1) := by decide +kernel
theorem d_T_choice_2 : decode b_T_choice 2 = .ok (.getfield 9, 3) := by decide +kernel
theorem d_T_choice_5 : decode b_T_choice 5 = .ok (.if_icmp .ge 13, 3) := by decide +kernel
theorem d_T_choice_8 : decode b_T_choice 8 = .ok (.aload_n 0, 1) := by decide +kernel
theorem d_T_choice_9 : decode b_T_choice 9 = .ok (.getfield 22, 3) := by decide +kernel
theorem d_T_choice_12 : decode b_T_choice 12 = .ok (.iload_n 2, 1) := by decide +kernel
theorem d_T_choice_13 : decode b_T_choice 13 = .ok (.iaload, 1) := by decide +kernel
theorem d_T_choice_14 : decode b_T_choice 14 = .ok (.iconst (-1), 1) := by decide +kernel
theorem d_T_choice_15 : decode b_T_choice 15 = .ok (.if_icmp .eq 5, 3) := by decide +kernel
theorem d_T_choice_18 : decode b_T_choice 18 = .ok (.iconst (-1), 1) := by decide +kernel
theorem d_T_choice_19 : decode b_T_choice 19 = .ok (.ireturn, 1) := by decide +kernel
theorem d_T_choice_20 : decode b_T_choice 20 = .ok (.iload_n 1, 1) := by decide +kernel
theorem d_T_choice_21 : decode b_T_choice 21 = .ok (.ifCond .ne 13, 3) := by decide +kernel
theorem d_T_choice_24 : decode b_T_choice 24 = .ok (.aload_n 0, 1) := by decide +kernel
theorem d_T_choice_25 : decode b_T_choice 25 = .ok (.getfield 25, 3) := by decide +kernel
theorem d_T_choice_28 : decode b_T_choice 28 = .ok (.iload_n 2, 1) := by decide +kernel
theorem d_T_choice_29 : decode b_T_choice 29 = .ok (.iaload, 1) := by decide +kernel
theorem d_T_choice_30 : decode b_T_choice 30 = .ok (.bipush 7, 2) := by decide +kernel
theorem d_T_choice_32 : decode b_T_choice 32 = .ok (.iand, 1) := by decide +kernel
theorem d_T_choice_33 : decode b_T_choice 33 = .ok (.ireturn, 1) := by decide +kernel
theorem d_T_choice_34 : decode b_T_choice 34 = .ok (.iload_n 1, 1) := by decide +kernel
theorem d_T_choice_35 : decode b_T_choice 35 = .ok (.iconst 1, 1) := by decide +kernel
theorem d_T_choice_36 : decode b_T_choice 36 = .ok (.if_icmp .ne 13, 3) := by decide +kernel
theorem d_T_choice_39 : decode b_T_choice 39 = .ok (.aload_n 0, 1) := by decide +kernel
theorem d_T_choice_40 : decode b_T_choice 40 = .ok (.getfield 28, 3) := by decide +kernel
theorem d_T_choice_43 : decode b_T_choice 43 = .ok (.iload_n 2, 1) := by decide +kernel
theorem d_T_choice_44 : decode b_T_choice 44 = .ok (.iaload, 1) := by decide +kernel
theorem d_T_choice_45 : decode b_T_choice 45 = .ok (.bipush 7, 2) := by decide +kernel
theorem d_T_choice_47 : decode b_T_choice 47 = .ok (.iand, 1) := by decide +kernel
theorem d_T_choice_48 : decode b_T_choice 48 = .ok (.ireturn, 1) := by decide +kernel
theorem d_T_choice_49 : decode b_T_choice 49 = .ok (.aload_n 0, 1) := by decide +kernel
theorem d_T_choice_50 : decode b_T_choice 50 = .ok (.getfield 9, 3) := by decide +kernel
theorem d_T_choice_53 : decode b_T_choice 53 = .ok (.iconst 1, 1) := by decide +kernel
theorem d_T_choice_54 : decode b_T_choice 54 = .ok (.isub, 1) := by decide +kernel
theorem d_T_choice_55 : decode b_T_choice 55 = .ok (.iload_n 3, 1) := by decide +kernel
theorem d_T_choice_56 : decode b_T_choice 56 = .ok (.isub, 1) := by decide +kernel
theorem d_T_choice_57 : decode b_T_choice 57 = .ok (.ireturn, 1) := by decide +kernel
theorem d_T_deepest_0 : decode b_T_deepest 0 = .ok (.aload_n 0, 1) := by decide +kernel
theorem d_T_deepest_1 : decode b_T_deepest 1 = .ok (.iload_n 1, 1) := by decide +kernel
theorem d_T_deepest_2 : decode b_T_deepest 2 = .ok (.aload_n 0, 1) := by decide +kernel
theorem d_T_deepest_3 : decode b_T_deepest 3 = .ok (.invokevirtual 70, 3) := by decide +kernel
theorem d_T_deepest_6 : decode b_T_deepest 6 = .ok (.iconst 0, 1) := by decide +kernel
theorem d_T_deepest_7 : decode b_T_deepest 7 = .ok (.invokestatic 74, 3) := by decide +kernel
theorem d_T_deepest_10 : decode b_T_deepest 10 = .ok (.ireturn, 1) := by decide +kernel
theorem d_T_deepestBelow_0 : decode b_T_deepestBelow 0 = .ok (.aload_n 0, 1) := by decide +kernel
theorem d_T_deepestBelow_1 : decode b_T_deepestBelow 1 = .ok (.iload_n 1, 1) := by decide +kernel
theorem d_T_deepestBelow_2 : decode b_T_deepestBelow 2 = .ok (.iload_n 2, 1) := by decide +kernel
theorem d_T_deepestBelow_3 : decode b_T_deepestBelow 3 = .ok (.iload_n 3, 1) := by decide +kernel
theorem d_T_deepestBelow_4 : decode b_T_deepestBelow 4 = .ok (.invokevirtual 78, 3) := by decide +kernel
theorem d_T_deepestBelow_7 : decode b_T_deepestBelow 7 = .ok (.istore 4, 2) := by decide +kernel
theorem d_T_deepestBelow_9 : decode b_T_deepestBelow 9 = .ok (.iload 4, 2) := by decide +kernel
theorem d_T_deepestBelow_11 : decode b_T_deepestBelow 11 = .ok (.iconst (-1), 1) := by decide +kernel
theorem d_T_deepestBelow_12 : decode b_T_deepestBelow 12 = .ok (.if_icmp .ne 5, 3) := by decide +kernel
theorem d_T_deepestBelow_15 : decode b_T_deepestBelow 15 = .ok (.iconst 0, 1) := by decide +kernel
theorem d_T_deepestBelow_16 : decode b_T_deepestBelow 16 = .ok (.ireturn, 1) := by decide +kernel
theorem d_T_deepestBelow_17 : decode b_T_deepestBelow 17 = .ok (.aload_n 0, 1) := by decide +kernel
theorem d_T_deepestBelow_18 : decode b_T_deepestBelow 18 = .ok (.iload_n 1, 1) := by decide +kernel
theorem d_T_deepestBelow_19 : decode b_T_deepestBelow 19 = .ok (.iload_n 2, 1) := by decide +kernel
theorem d_T_deepestBelow_20 : decode b_T_deepestBelow 20 = .ok (.iload 4, 2) := by decide +kernel
theorem d_T_deepestBelow_22 : decode b_T_deepestBelow 22 = .ok (.iconst 0, 1) := by decide +kernel
theorem d_T_deepestBelow_23 : decode b_T_deepestBelow 23 = .ok (.invokestatic 54, 3) := by decide +kernel
theorem d_T_deepestBelow_26 : decode b_T_deepestBelow 26 = .ok (.iload_n 3, 1) := by decide +kernel
theorem d_T_deepestBelow_27 : decode b_T_deepestBelow 27 = .ok (.iconst 1, 1) := by decide +kernel
theorem d_T_deepestBelow_28 : decode b_T_deepestBelow 28 = .ok (.iadd, 1) := by decide +kernel
theorem d_T_deepestBelow_29 : decode b_T_deepestBelow 29 = .ok (.invokestatic 74, 3) := by decide +kernel
theorem d_T_deepestBelow_32 : decode b_T_deepestBelow 32 = .ok (.istore 5, 2) := by decide +kernel
theorem d_T_deepestBelow_34 : decode b_T_deepestBelow 34 = .ok (.aload_n 0, 1) := by decide +kernel
theorem d_T_deepestBelow_35 : decode b_T_deepestBelow 35 = .ok (.iload_n 1, 1) := by decide +kernel
theorem d_T_deepestBelow_36 : decode b_T_deepestBelow 36 = .ok (.iload_n 2, 1) := by decide +kernel
theorem d_T_deepestBelow_37 : decode b_T_deepestBelow 37 = .ok (.iload 4, 2) := by decide +kernel
theorem d_T_deepestBelow_39 : decode b_T_deepestBelow 39 = .ok (.iconst 1, 1) := by decide +kernel
theorem d_T_deepestBelow_40 : decode b_T_deepestBelow 40 = .ok (.invokestatic 54, 3) := by decide +kernel
theorem d_T_deepestBelow_43 : decode b_T_deepestBelow 43 = .ok (.iload_n 3, 1) := by decide +kernel
theorem d_T_deepestBelow_44 : decode b_T_deepestBelow 44 = .ok (.iconst 1, 1) := by decide +kernel
theorem d_T_deepestBelow_45 : decode b_T_deepestBelow 45 = .ok (.iadd, 1) := by decide +kernel
theorem d_T_deepestBelow_46 : decode b_T_deepestBelow 46 = .ok (.invokestatic 74, 3) := by decide +kernel
theorem d_T_deepestBelow_49 : decode b_T_deepestBelow 49 = .ok (.istore 6, 2) := by decide +kernel
theorem d_T_deepestBelow_51 : decode b_T_deepestBelow 51 = .ok (.iconst 1, 1) := by decide +kernel
theorem d_T_deepestBelow_52 : decode b_T_deepestBelow 52 = .ok (.iload 5, 2) := by decide +kernel
theorem d_T_deepestBelow_54 : decode b_T_deepestBelow 54 = .ok (.iload 6, 2) := by decide +kernel
theorem d_T_deepestBelow_56 : decode b_T_deepestBelow 56 = .ok (.invokestatic 59, 3) := by decide +kernel
theorem d_T_deepestBelow_59 : decode b_T_deepestBelow 59 = .ok (.iadd, 1) := by decide +kernel
theorem d_T_deepestBelow_60 : decode b_T_deepestBelow 60 = .ok (.ireturn, 1) := by decide +kernel
theorem d_T_total_0 : decode b_T_total 0 = .ok (.aload_n 0, 1) := by decide +kernel
theorem d_T_total_1 : decode b_T_total 1 = .ok (.iload_n 1, 1) := by decide +kernel
theorem d_T_total_2 : decode b_T_total 2 = .ok (.aload_n 0, 1) := by decide +kernel
theorem d_T_total_3 : decode b_T_total 3 = .ok (.invokevirtual 70, 3) := by decide +kernel
theorem d_T_total_6 : decode b_T_total 6 = .ok (.iconst 0, 1) := by decide +kernel
theorem d_T_total_7 : decode b_T_total 7 = .ok (.invokestatic 81, 3) := by decide +kernel
theorem d_T_total_10 : decode b_T_total 10 = .ok (.ireturn, 1) := by decide +kernel
theorem d_T_totalBelow_0 : decode b_T_totalBelow 0 = .ok (.aload_n 0, 1) := by decide +kernel
theorem d_T_totalBelow_1 : decode b_T_totalBelow 1 = .ok (.iload_n 1, 1) := by decide +kernel
theorem d_T_totalBelow_2 : decode b_T_totalBelow 2 = .ok (.iload_n 2, 1) := by decide +kernel
theorem d_T_totalBelow_3 : decode b_T_totalBelow 3 = .ok (.iload_n 3, 1) := by decide +kernel
theorem d_T_totalBelow_4 : decode b_T_totalBelow 4 = .ok (.invokevirtual 78, 3) := by decide +kernel
theorem d_T_totalBelow_7 : decode b_T_totalBelow 7 = .ok (.istore 4, 2) := by decide +kernel
theorem d_T_totalBelow_9 : decode b_T_totalBelow 9 = .ok (.iload 4, 2) := by decide +kernel
theorem d_T_totalBelow_11 : decode b_T_totalBelow 11 = .ok (.iconst (-1), 1) := by decide +kernel
theorem d_T_totalBelow_12 : decode b_T_totalBelow 12 = .ok (.if_icmp .ne 5, 3) := by decide +kernel
theorem d_T_totalBelow_15 : decode b_T_totalBelow 15 = .ok (.iconst 0, 1) := by decide +kernel
theorem d_T_totalBelow_16 : decode b_T_totalBelow 16 = .ok (.ireturn, 1) := by decide +kernel
theorem d_T_totalBelow_17 : decode b_T_totalBelow 17 = .ok (.aload_n 0, 1) := by decide +kernel
theorem d_T_totalBelow_18 : decode b_T_totalBelow 18 = .ok (.iload_n 1, 1) := by decide +kernel
theorem d_T_totalBelow_19 : decode b_T_totalBelow 19 = .ok (.iload_n 2, 1) := by decide +kernel
theorem d_T_totalBelow_20 : decode b_T_totalBelow 20 = .ok (.iload 4, 2) := by decide +kernel
theorem d_T_totalBelow_22 : decode b_T_totalBelow 22 = .ok (.iconst 0, 1) := by decide +kernel
theorem d_T_totalBelow_23 : decode b_T_totalBelow 23 = .ok (.invokestatic 54, 3) := by decide +kernel
theorem d_T_totalBelow_26 : decode b_T_totalBelow 26 = .ok (.iload_n 3, 1) := by decide +kernel
theorem d_T_totalBelow_27 : decode b_T_totalBelow 27 = .ok (.iconst 1, 1) := by decide +kernel
theorem d_T_totalBelow_28 : decode b_T_totalBelow 28 = .ok (.iadd, 1) := by decide +kernel
theorem d_T_totalBelow_29 : decode b_T_totalBelow 29 = .ok (.invokestatic 81, 3) := by decide +kernel
theorem d_T_totalBelow_32 : decode b_T_totalBelow 32 = .ok (.istore 5, 2) := by decide +kernel
theorem d_T_totalBelow_34 : decode b_T_totalBelow 34 = .ok (.aload_n 0, 1) := by decide +kernel
theorem d_T_totalBelow_35 : decode b_T_totalBelow 35 = .ok (.iload_n 1, 1) := by decide +kernel
theorem d_T_totalBelow_36 : decode b_T_totalBelow 36 = .ok (.iload_n 2, 1) := by decide +kernel
theorem d_T_totalBelow_37 : decode b_T_totalBelow 37 = .ok (.iload 4, 2) := by decide +kernel
theorem d_T_totalBelow_39 : decode b_T_totalBelow 39 = .ok (.iconst 1, 1) := by decide +kernel
theorem d_T_totalBelow_40 : decode b_T_totalBelow 40 = .ok (.invokestatic 54, 3) := by decide +kernel
theorem d_T_totalBelow_43 : decode b_T_totalBelow 43 = .ok (.iload_n 3, 1) := by decide +kernel
theorem d_T_totalBelow_44 : decode b_T_totalBelow 44 = .ok (.iconst 1, 1) := by decide +kernel
theorem d_T_totalBelow_45 : decode b_T_totalBelow 45 = .ok (.iadd, 1) := by decide +kernel
theorem d_T_totalBelow_46 : decode b_T_totalBelow 46 = .ok (.invokestatic 81, 3) := by decide +kernel
theorem d_T_totalBelow_49 : decode b_T_totalBelow 49 = .ok (.istore 6, 2) := by decide +kernel
theorem d_T_totalBelow_51 : decode b_T_totalBelow 51 = .ok (.iconst 1, 1) := by decide +kernel
theorem d_T_totalBelow_52 : decode b_T_totalBelow 52 = .ok (.aload_n 0, 1) := by decide +kernel
theorem d_T_totalBelow_53 : decode b_T_totalBelow 53 = .ok (.getfield 9, 3) := by decide +kernel
theorem d_T_totalBelow_56 : decode b_T_totalBelow 56 = .ok (.iload_n 3, 1) := by decide +kernel
theorem d_T_totalBelow_57 : decode b_T_totalBelow 57 = .ok (.isub, 1) := by decide +kernel
theorem d_T_totalBelow_58 : decode b_T_totalBelow 58 = .ok (.ishl, 1) := by decide +kernel
theorem d_T_totalBelow_59 : decode b_T_totalBelow 59 = .ok (.iload 5, 2) := by decide +kernel
theorem d_T_totalBelow_61 : decode b_T_totalBelow 61 = .ok (.iadd, 1) := by decide +kernel
theorem d_T_totalBelow_62 : decode b_T_totalBelow 62 = .ok (.iload 6, 2) := by decide +kernel
theorem d_T_totalBelow_64 : decode b_T_totalBelow 64 = .ok (.iadd, 1) := by decide +kernel
theorem d_T_totalBelow_65 : decode b_T_totalBelow 65 = .ok (.ireturn, 1) := by decide +kernel
theorem d_R_init_0 : decode b_R_init 0 = .ok (.aload_n 0, 1) := by decide +kernel
theorem d_R_init_1 : decode b_R_init 1 = .ok (.invokespecial 3, 3) := by decide +kernel
theorem d_R_init_4 : decode b_R_init 4 = .ok (.aload_n 0, 1) := by decide +kernel
theorem d_R_init_5 : decode b_R_init 5 = .ok (.iload_n 1, 1) := by decide +kernel
theorem d_R_init_6 : decode b_R_init 6 = .ok (.putfield 9, 3) := by decide +kernel
theorem d_R_init_9 : decode b_R_init 9 = .ok (.iconst 2, 1) := by decide +kernel
theorem d_R_init_10 : decode b_R_init 10 = .ok (.iload_n 1, 1) := by decide +kernel
theorem d_R_init_11 : decode b_R_init 11 = .ok (.ishl, 1) := by decide +kernel
theorem d_R_init_12 : decode b_R_init 12 = .ok (.iconst 1, 1) := by decide +kernel
theorem d_R_init_13 : decode b_R_init 13 = .ok (.isub, 1) := by decide +kernel
theorem d_R_init_14 : decode b_R_init 14 = .ok (.istore_n 2, 1) := by decide +kernel
theorem d_R_init_15 : decode b_R_init 15 = .ok (.aload_n 0, 1) := by decide +kernel
theorem d_R_init_16 : decode b_R_init 16 = .ok (.iload_n 2, 1) := by decide +kernel
theorem d_R_init_17 : decode b_R_init 17 = .ok (.newarray .int, 2) := by decide +kernel
theorem d_R_init_19 : decode b_R_init 19 = .ok (.putfield 15, 3) := by decide +kernel
theorem d_R_init_22 : decode b_R_init 22 = .ok (.aload_n 0, 1) := by decide +kernel
theorem d_R_init_23 : decode b_R_init 23 = .ok (.iload_n 2, 1) := by decide +kernel
theorem d_R_init_24 : decode b_R_init 24 = .ok (.newarray .int, 2) := by decide +kernel
theorem d_R_init_26 : decode b_R_init 26 = .ok (.putfield 19, 3) := by decide +kernel
theorem d_R_init_29 : decode b_R_init 29 = .ok (.aload_n 0, 1) := by decide +kernel
theorem d_R_init_30 : decode b_R_init 30 = .ok (.iload_n 2, 1) := by decide +kernel
theorem d_R_init_31 : decode b_R_init 31 = .ok (.newarray .int, 2) := by decide +kernel
theorem d_R_init_33 : decode b_R_init 33 = .ok (.putfield 22, 3) := by decide +kernel
theorem d_R_init_36 : decode b_R_init 36 = .ok (.aload_n 0, 1) := by decide +kernel
theorem d_R_init_37 : decode b_R_init 37 = .ok (.iload_n 2, 1) := by decide +kernel
theorem d_R_init_38 : decode b_R_init 38 = .ok (.newarray .int, 2) := by decide +kernel
theorem d_R_init_40 : decode b_R_init 40 = .ok (.putfield 25, 3) := by decide +kernel
theorem d_R_init_43 : decode b_R_init 43 = .ok (.aload_n 0, 1) := by decide +kernel
theorem d_R_init_44 : decode b_R_init 44 = .ok (.iload_n 2, 1) := by decide +kernel
theorem d_R_init_45 : decode b_R_init 45 = .ok (.newarray .int, 2) := by decide +kernel
theorem d_R_init_47 : decode b_R_init 47 = .ok (.putfield 28, 3) := by decide +kernel
theorem d_R_init_50 : decode b_R_init 50 = .ok (.return_, 1) := by decide +kernel
theorem d_R_clear_0 : decode b_R_clear 0 = .ok (.aload_n 0, 1) := by decide +kernel
theorem d_R_clear_1 : decode b_R_clear 1 = .ok (.iconst 0, 1) := by decide +kernel
theorem d_R_clear_2 : decode b_R_clear 2 = .ok (.putfield 31, 3) := by decide +kernel
theorem d_R_clear_5 : decode b_R_clear 5 = .ok (.aload_n 0, 1) := by decide +kernel
theorem d_R_clear_6 : decode b_R_clear 6 = .ok (.iconst 0, 1) := by decide +kernel
theorem d_R_clear_7 : decode b_R_clear 7 = .ok (.putfield 34, 3) := by decide +kernel
theorem d_R_clear_10 : decode b_R_clear 10 = .ok (.return_, 1) := by decide +kernel
theorem d_R_grow_0 : decode b_R_grow 0 = .ok (.aload_n 0, 1) := by decide +kernel
theorem d_R_grow_1 : decode b_R_grow 1 = .ok (.invokevirtual 37, 3) := by decide +kernel
theorem d_R_grow_4 : decode b_R_grow 4 = .ok (.aload_n 0, 1) := by decide +kernel
theorem d_R_grow_5 : decode b_R_grow 5 = .ok (.aload_n 1, 1) := by decide +kernel
theorem d_R_grow_6 : decode b_R_grow 6 = .ok (.iload_n 2, 1) := by decide +kernel
theorem d_R_grow_7 : decode b_R_grow 7 = .ok (.aload_n 1, 1) := by decide +kernel
theorem d_R_grow_8 : decode b_R_grow 8 = .ok (.invokevirtual 40, 3) := by decide +kernel
theorem d_R_grow_11 : decode b_R_grow 11 = .ok (.iconst 0, 1) := by decide +kernel
theorem d_R_grow_12 : decode b_R_grow 12 = .ok (.invokestatic 46, 3) := by decide +kernel
theorem d_R_grow_15 : decode b_R_grow 15 = .ok (.pop, 1) := by decide +kernel
theorem d_R_grow_16 : decode b_R_grow 16 = .ok (.return_, 1) := by decide +kernel
theorem d_R_growBelow_0 : decode b_R_growBelow 0 = .ok (.aload_n 1, 1) := by decide +kernel
theorem d_R_growBelow_1 : decode b_R_growBelow 1 = .ok (.iload_n 2, 1) := by decide +kernel
theorem d_R_growBelow_2 : decode b_R_growBelow 2 = .ok (.iload_n 3, 1) := by decide +kernel
theorem d_R_growBelow_3 : decode b_R_growBelow 3 = .ok (.iload 4, 2) := by decide +kernel
theorem d_R_growBelow_5 : decode b_R_growBelow 5 = .ok (.invokevirtual 50, 3) := by decide +kernel
theorem d_R_growBelow_8 : decode b_R_growBelow 8 = .ok (.istore 5, 2) := by decide +kernel
theorem d_R_growBelow_10 : decode b_R_growBelow 10 = .ok (.iload 5, 2) := by decide +kernel
theorem d_R_growBelow_12 : decode b_R_growBelow 12 = .ok (.iconst (-1), 1) := by decide +kernel

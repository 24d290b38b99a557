theorem dX12_hasRelation_60 : decode cX12_hasRelation 60 = .ok (.iload_n 1, 1) := by decide +kernel
theorem dX12_hasRelation_61 : decode cX12_hasRelation 61 = .ok (.iaload, 1) := by decide +kernel
theorem dX12_hasRelation_62 : decode cX12_hasRelation 62 = .ok (.invokestatic 267, 3) := by decide +kernel
theorem dX12_hasRelation_65 : decode cX12_hasRelation 65 = .ok (.iconst 4, 1) := by decide +kernel
theorem dX12_hasRelation_66 : decode cX12_hasRelation 66 = .ok (.if_icmp .ne 7, 3) := by decide +kernel
theorem dX12_hasRelation_69 : decode cX12_hasRelation 69 = .ok (.iconst 1, 1) := by decide +kernel
theorem dX12_hasRelation_70 : decode cX12_hasRelation 70 = .ok (.goto 4, 3) := by decide +kernel
theorem dX12_hasRelation_73 : decode cX12_hasRelation 73 = .ok (.iconst 0, 1) := by decide +kernel
theorem dX12_hasRelation_74 : decode cX12_hasRelation 74 = .ok (.ireturn, 1) := by decide +kernel
theorem dX12_mayNot_0 : decode cX12_mayNot 0 = .ok (.aload_n 0, 1) := by decide +kernel
theorem dX12_mayNot_1 : decode cX12_mayNot 1 = .ok (.getfield 264, 3) := by decide +kernel
theorem dX12_mayNot_4 : decode cX12_mayNot 4 = .ok (.ifCond .eq 37, 3) := by decide +kernel
theorem dX12_mayNot_7 : decode cX12_mayNot 7 = .ok (.aload_n 0, 1) := by decide +kernel
theorem dX12_mayNot_8 : decode cX12_mayNot 8 = .ok (.getfield 33, 3) := by decide +kernel
theorem dX12_mayNot_11 : decode cX12_mayNot 11 = .ok (.aload_n 0, 1) := by decide +kernel
theorem dX12_mayNot_12 : decode cX12_mayNot 12 = .ok (.getfield 264, 3) := by decide +kernel
theorem dX12_mayNot_15 : decode cX12_mayNot 15 = .ok (.iconst 1, 1) := by decide +kernel
theorem dX12_mayNot_16 : decode cX12_mayNot 16 = .ok (.isub, 1) := by decide +kernel
theorem dX12_mayNot_17 : decode cX12_mayNot 17 = .ok (.iaload, 1) := by decide +kernel
theorem dX12_mayNot_18 : decode cX12_mayNot 18 = .ok (.bipush 20, 2) := by decide +kernel
theorem dX12_mayNot_20 : decode cX12_mayNot 20 = .ok (.if_icmp .eq 21, 3) := by decide +kernel
theorem dX12_mayNot_23 : decode cX12_mayNot 23 = .ok (.aload_n 0, 1) := by decide +kernel
theorem dX12_mayNot_24 : decode cX12_mayNot 24 = .ok (.getfield 33, 3) := by decide +kernel
theorem dX12_mayNot_27 : decode cX12_mayNot 27 = .ok (.aload_n 0, 1) := by decide +kernel
theorem dX12_mayNot_28 : decode cX12_mayNot 28 = .ok (.getfield 264, 3) := by decide +kernel
theorem dX12_mayNot_31 : decode cX12_mayNot 31 = .ok (.iconst 1, 1) := by decide +kernel
theorem dX12_mayNot_32 : decode cX12_mayNot 32 = .ok (.isub, 1) := by decide +kernel
theorem dX12_mayNot_33 : decode cX12_mayNot 33 = .ok (.iaload, 1) := by decide +kernel
theorem dX12_mayNot_34 : decode cX12_mayNot 34 = .ok (.invokestatic 267, 3) := by decide +kernel
theorem dX12_mayNot_37 : decode cX12_mayNot 37 = .ok (.iconst 4, 1) := by decide +kernel
theorem dX12_mayNot_38 : decode cX12_mayNot 38 = .ok (.if_icmp .ge 7, 3) := by decide +kernel
theorem dX12_mayNot_41 : decode cX12_mayNot 41 = .ok (.iconst 1, 1) := by decide +kernel
theorem dX12_mayNot_42 : decode cX12_mayNot 42 = .ok (.goto 4, 3) := by decide +kernel
theorem dX12_mayNot_45 : decode cX12_mayNot 45 = .ok (.iconst 0, 1) := by decide +kernel
theorem dX12_mayNot_46 : decode cX12_mayNot 46 = .ok (.ireturn, 1) := by decide +kernel
theorem dX12_asked_0 : decode cX12_asked 0 = .ok (.aload_n 0, 1) := by decide +kernel
theorem dX12_asked_1 : decode cX12_asked 1 = .ok (.getfield 175, 3) := by decide +kernel
theorem dX12_asked_4 : decode cX12_asked 4 = .ok (.iconst 1, 1) := by decide +kernel
theorem dX12_asked_5 : decode cX12_asked 5 = .ok (.if_icmp .eq 5, 3) := by decide +kernel
theorem dX12_asked_8 : decode cX12_asked 8 = .ok (.iconst (-1), 1) := by decide +kernel
theorem dX12_asked_9 : decode cX12_asked 9 = .ok (.ireturn, 1) := by decide +kernel
theorem dX12_asked_10 : decode cX12_asked 10 = .ok (.aload_n 0, 1) := by decide +kernel
theorem dX12_asked_11 : decode cX12_asked 11 = .ok (.getfield 168, 3) := by decide +kernel
theorem dX12_asked_14 : decode cX12_asked 14 = .ok (.ldc2_w 221, 3) := by decide +kernel
theorem dX12_asked_17 : decode cX12_asked 17 = .ok (.lcmp, 1) := by decide +kernel
theorem dX12_asked_18 : decode cX12_asked 18 = .ok (.ifCond .ne 5, 3) := by decide +kernel
theorem dX12_asked_21 : decode cX12_asked 21 = .ok (.iconst 0, 1) := by decide +kernel
theorem dX12_asked_22 : decode cX12_asked 22 = .ok (.ireturn, 1) := by decide +kernel
theorem dX12_asked_23 : decode cX12_asked 23 = .ok (.aload_n 0, 1) := by decide +kernel
theorem dX12_asked_24 : decode cX12_asked 24 = .ok (.getfield 168, 3) := by decide +kernel
theorem dX12_asked_27 : decode cX12_asked 27 = .ok (.ldc2_w 223, 3) := by decide +kernel
theorem dX12_asked_30 : decode cX12_asked 30 = .ok (.lcmp, 1) := by decide +kernel
theorem dX12_asked_31 : decode cX12_asked 31 = .ok (.ifCond .ne 5, 3) := by decide +kernel
theorem dX12_asked_34 : decode cX12_asked 34 = .ok (.iconst 1, 1) := by decide +kernel
theorem dX12_asked_35 : decode cX12_asked 35 = .ok (.ireturn, 1) := by decide +kernel
theorem dX12_asked_36 : decode cX12_asked 36 = .ok (.aload_n 0, 1) := by decide +kernel
theorem dX12_asked_37 : decode cX12_asked 37 = .ok (.getfield 168, 3) := by decide +kernel
theorem dX12_asked_40 : decode cX12_asked 40 = .ok (.ldc2_w 225, 3) := by decide +kernel
theorem dX12_asked_43 : decode cX12_asked 43 = .ok (.lcmp, 1) := by decide +kernel
theorem dX12_asked_44 : decode cX12_asked 44 = .ok (.ifCond .ne 7, 3) := by decide +kernel
theorem dX12_asked_47 : decode cX12_asked 47 = .ok (.iconst 2, 1) := by decide +kernel
theorem dX12_asked_48 : decode cX12_asked 48 = .ok (.goto 4, 3) := by decide +kernel
theorem dX12_asked_51 : decode cX12_asked 51 = .ok (.iconst (-1), 1) := by decide +kernel
theorem dX12_asked_52 : decode cX12_asked 52 = .ok (.ireturn, 1) := by decide +kernel
theorem dX12_isFull_0 : decode cX12_isFull 0 = .ok (.aload_n 0, 1) := by decide +kernel
theorem dX12_isFull_1 : decode cX12_isFull 1 = .ok (.getfield 276, 3) := by decide +kernel
theorem dX12_isFull_4 : decode cX12_isFull 4 = .ok (.bipush 60, 2) := by decide +kernel
theorem dX12_isFull_6 : decode cX12_isFull 6 = .ok (.if_icmp .eq 12, 3) := by decide +kernel
theorem dX12_isFull_9 : decode cX12_isFull 9 = .ok (.aload_n 0, 1) := by decide +kernel
theorem dX12_isFull_10 : decode cX12_isFull 10 = .ok (.getfield 279, 3) := by decide +kernel
theorem dX12_isFull_13 : decode cX12_isFull 13 = .ok (.bipush 30, 2) := by decide +kernel
theorem dX12_isFull_15 : decode cX12_isFull 15 = .ok (.if_icmp .ne 7, 3) := by decide +kernel
theorem dX12_isFull_18 : decode cX12_isFull 18 = .ok (.iconst 1, 1) := by decide +kernel
theorem dX12_isFull_19 : decode cX12_isFull 19 = .ok (.goto 4, 3) := by decide +kernel
theorem dX12_isFull_22 : decode cX12_isFull 22 = .ok (.iconst 0, 1) := by decide +kernel
theorem dX12_isFull_23 : decode cX12_isFull 23 = .ok (.ireturn, 1) := by decide +kernel
theorem dX12_countUnit_0 : decode cX12_countUnit 0 = .ok (.aload_n 0, 1) := by decide +kernel
theorem dX12_countUnit_1 : decode cX12_countUnit 1 = .ok (.dup, 1) := by decide +kernel
theorem dX12_countUnit_2 : decode cX12_countUnit 2 = .ok (.getfield 276, 3) := by decide +kernel
theorem dX12_countUnit_5 : decode cX12_countUnit 5 = .ok (.iconst 1, 1) := by decide +kernel
theorem dX12_countUnit_6 : decode cX12_countUnit 6 = .ok (.iadd, 1) := by decide +kernel
theorem dX12_countUnit_7 : decode cX12_countUnit 7 = .ok (.putfield 276, 3) := by decide +kernel
theorem dX12_countUnit_10 : decode cX12_countUnit 10 = .ok (.aload_n 0, 1) := by decide +kernel
theorem dX12_countUnit_11 : decode cX12_countUnit 11 = .ok (.dup, 1) := by decide +kernel
theorem dX12_countUnit_12 : decode cX12_countUnit 12 = .ok (.getfield 279, 3) := by decide +kernel
theorem dX12_countUnit_15 : decode cX12_countUnit 15 = .ok (.iconst 1, 1) := by decide +kernel
theorem dX12_countUnit_16 : decode cX12_countUnit 16 = .ok (.iadd, 1) := by decide +kernel
theorem dX12_countUnit_17 : decode cX12_countUnit 17 = .ok (.putfield 279, 3) := by decide +kernel
theorem dX12_countUnit_20 : decode cX12_countUnit 20 = .ok (.return_, 1) := by decide +kernel
theorem dX12_openUp_0 : decode cX12_openUp 0 = .ok (.aload_n 0, 1) := by decide +kernel
theorem dX12_openUp_1 : decode cX12_openUp 1 = .ok (.getfield 33, 3) := by decide +kernel
theorem dX12_openUp_4 : decode cX12_openUp 4 = .ok (.aload_n 0, 1) := by decide +kernel
theorem dX12_openUp_5 : decode cX12_openUp 5 = .ok (.getfield 264, 3) := by decide +kernel
theorem dX12_openUp_8 : decode cX12_openUp 8 = .ok (.iload_n 1, 1) := by decide +kernel
theorem dX12_openUp_9 : decode cX12_openUp 9 = .ok (.iastore, 1) := by decide +kernel
theorem dX12_openUp_10 : decode cX12_openUp 10 = .ok (.aload_n 0, 1) := by decide +kernel
theorem dX12_openUp_11 : decode cX12_openUp 11 = .ok (.dup, 1) := by decide +kernel
theorem dX12_openUp_12 : decode cX12_openUp 12 = .ok (.getfield 264, 3) := by decide +kernel
theorem dX12_openUp_15 : decode cX12_openUp 15 = .ok (.iconst 1, 1) := by decide +kernel
theorem dX12_openUp_16 : decode cX12_openUp 16 = .ok (.iadd, 1) := by decide +kernel
theorem dX12_openUp_17 : decode cX12_openUp 17 = .ok (.putfield 264, 3) := by decide +kernel
theorem dX12_openUp_20 : decode cX12_openUp 20 = .ok (.aload_n 0, 1) := by decide +kernel
theorem dX12_openUp_21 : decode cX12_openUp 21 = .ok (.dup, 1) := by decide +kernel
theorem dX12_openUp_22 : decode cX12_openUp 22 = .ok (.getfield 273, 3) := by decide +kernel
theorem dX12_openUp_25 : decode cX12_openUp 25 = .ok (.iconst 1, 1) := by decide +kernel
theorem dX12_openUp_26 : decode cX12_openUp 26 = .ok (.iadd, 1) := by decide +kernel
theorem dX12_openUp_27 : decode cX12_openUp 27 = .ok (.putfield 273, 3) := by decide +kernel
theorem dX12_openUp_30 : decode cX12_openUp 30 = .ok (.aload_n 0, 1) := by decide +kernel
theorem dX12_openUp_31 : decode cX12_openUp 31 = .ok (.getfield 188, 3) := by decide +kernel
theorem dX12_openUp_34 : decode cX12_openUp 34 = .ok (.ifCond .ne 7, 3) := by decide +kernel
theorem dX12_openUp_37 : decode cX12_openUp 37 = .ok (.aload_n 0, 1) := by decide +kernel
theorem dX12_openUp_38 : decode cX12_openUp 38 = .ok (.invokevirtual 244, 3) := by decide +kernel
theorem dX12_openUp_41 : decode cX12_openUp 41 = .ok (.return_, 1) := by decide +kernel
theorem dX12_unit_0 : decode cX12_unit 0 = .ok (.iconst 1, 1) := by decide +kernel
theorem dX12_unit_1 : decode cX12_unit 1 = .ok (.istore_n 1, 1) := by decide +kernel
theorem dX12_unit_2 : decode cX12_unit 2 = .ok (.iload_n 1, 1) := by decide +kernel
theorem dX12_unit_3 : decode cX12_unit 3 = .ok (.ifCond .eq 98, 3) := by decide +kernel
theorem dX12_unit_6 : decode cX12_unit 6 = .ok (.aload_n 0, 1) := by decide +kernel
theorem dX12_unit_7 : decode cX12_unit 7 = .ok (.getfield 188, 3) := by decide +kernel
theorem dX12_unit_10 : decode cX12_unit 10 = .ok (.ifCond .ne 91, 3) := by decide +kernel
theorem dX12_unit_13 : decode cX12_unit 13 = .ok (.aload_n 0, 1) := by decide +kernel
theorem dX12_unit_14 : decode cX12_unit 14 = .ok (.ldc2_w 231, 3) := by decide +kernel
theorem dX12_unit_17 : decode cX12_unit 17 = .ok (.invokevirtual 237, 3) := by decide +kernel
theorem dX12_unit_20 : decode cX12_unit 20 = .ok (.ifCond .eq 33, 3) := by decide +kernel
theorem dX12_unit_23 : decode cX12_unit 23 = .ok (.aload_n 0, 1) := by decide +kernel
theorem dX12_unit_24 : decode cX12_unit 24 = .ok (.invokevirtual 282, 3) := by decide +kernel
theorem dX12_unit_27 : decode cX12_unit 27 = .ok (.ifCond .eq 26, 3) := by decide +kernel
theorem dX12_unit_30 : decode cX12_unit 30 = .ok (.aload_n 0, 1) := by decide +kernel
theorem dX12_unit_31 : decode cX12_unit 31 = .ok (.getfield 273, 3) := by decide +kernel
theorem dX12_unit_34 : decode cX12_unit 34 = .ok (.bipush 6, 2) := by decide +kernel
theorem dX12_unit_36 : decode cX12_unit 36 = .ok (.if_icmp .le 8, 3) := by decide +kernel
theorem dX12_unit_39 : decode cX12_unit 39 = .ok (.aload_n 0, 1) := by decide +kernel
theorem dX12_unit_40 : decode cX12_unit 40 = .ok (.iconst 2, 1) := by decide +kernel
theorem dX12_unit_41 : decode cX12_unit 41 = .ok (.invokevirtual 241, 3) := by decide +kernel
theorem dX12_unit_44 : decode cX12_unit 44 = .ok (.aload_n 0, 1) := by decide +kernel
theorem dX12_unit_45 : decode cX12_unit 45 = .ok (.bipush 21, 2) := by decide +kernel
theorem dX12_unit_47 : decode cX12_unit 47 = .ok (.invokevirtual 285, 3) := by decide +kernel
theorem dX12_unit_50 : decode cX12_unit 50 = .ok (.goto (-48), 3) := by decide +kernel
theorem dX12_unit_53 : decode cX12_unit 53 = .ok (.aload_n 0, 1) := by decide +kernel
theorem dX12_unit_54 : decode cX12_unit 54 = .ok (.getfield 175, 3) := by decide +kernel
theorem dX12_unit_57 : decode cX12_unit 57 = .ok (.bipush 40, 2) := by decide +kernel
theorem dX12_unit_59 : decode cX12_unit 59 = .ok (.if_icmp .ne 37, 3) := by decide +kernel
theorem dX12_unit_62 : decode cX12_unit 62 = .ok (.aload_n 0, 1) := by decide +kernel
theorem dX12_unit_63 : decode cX12_unit 63 = .ok (.invokevirtual 288, 3) := by decide +kernel
theorem dX12_unit_66 : decode cX12_unit 66 = .ok (.ifCond .ne 12, 3) := by decide +kernel
theorem dX12_unit_69 : decode cX12_unit 69 = .ok (.aload_n 0, 1) := by decide +kernel
theorem dX12_unit_70 : decode cX12_unit 70 = .ok (.getfield 273, 3) := by decide +kernel
theorem dX12_unit_73 : decode cX12_unit 73 = .ok (.bipush 6, 2) := by decide +kernel
theorem dX12_unit_75 : decode cX12_unit 75 = .ok (.if_icmp .le 8, 3) := by decide +kernel
theorem dX12_unit_78 : decode cX12_unit 78 = .ok (.aload_n 0, 1) := by decide +kernel
theorem dX12_unit_79 : decode cX12_unit 79 = .ok (.iconst 2, 1) := by decide +kernel
theorem dX12_unit_80 : decode cX12_unit 80 = .ok (.invokevirtual 241, 3) := by decide +kernel
theorem dX12_unit_83 : decode cX12_unit 83 = .ok (.aload_n 0, 1) := by decide +kernel
theorem dX12_unit_84 : decode cX12_unit 84 = .ok (.invokevirtual 291, 3) := by decide +kernel
theorem dX12_unit_87 : decode cX12_unit 87 = .ok (.aload_n 0, 1) := by decide +kernel
theorem dX12_unit_88 : decode cX12_unit 88 = .ok (.bipush 20, 2) := by decide +kernel
theorem dX12_unit_90 : decode cX12_unit 90 = .ok (.invokevirtual 285, 3) := by decide +kernel
theorem dX12_unit_93 : decode cX12_unit 93 = .ok (.goto (-91), 3) := by decide +kernel
theorem dX12_unit_96 : decode cX12_unit 96 = .ok (.iconst 0, 1) := by decide +kernel
theorem dX12_unit_97 : decode cX12_unit 97 = .ok (.istore_n 1, 1) := by decide +kernel
theorem dX12_unit_98 : decode cX12_unit 98 = .ok (.goto (-96), 3) := by decide +kernel
theorem dX12_unit_101 : decode cX12_unit 101 = .ok (.aload_n 0, 1) := by decide +kernel
theorem dX12_unit_102 : decode cX12_unit 102 = .ok (.getfield 188, 3) := by decide +kernel
theorem dX12_unit_105 : decode cX12_unit 105 = .ok (.ifCond .le 4, 3) := by decide +kernel
theorem dX12_unit_108 : decode cX12_unit 108 = .ok (.return_, 1) := by decide +kernel
theorem dX12_unit_109 : decode cX12_unit 109 = .ok (.aload_n 0, 1) := by decide +kernel
theorem dX12_unit_110 : decode cX12_unit 110 = .ok (.invokevirtual 294, 3) := by decide +kernel
theorem dX12_unit_113 : decode cX12_unit 113 = .ok (.istore_n 2, 1) := by decide +kernel
theorem dX12_unit_114 : decode cX12_unit 114 = .ok (.aload_n 0, 1) := by decide +kernel
theorem dX12_unit_115 : decode cX12_unit 115 = .ok (.getfield 175, 3) := by decide +kernel
theorem dX12_unit_118 : decode cX12_unit 118 = .ok (.iconst 2, 1) := by decide +kernel
theorem dX12_unit_119 : decode cX12_unit 119 = .ok (.if_icmp .eq 7, 3) := by decide +kernel
theorem dX12_unit_122 : decode cX12_unit 122 = .ok (.iload_n 2, 1) := by decide +kernel
theorem dX12_unit_123 : decode cX12_unit 123 = .ok (.ifCond .lt 10, 3) := by decide +kernel
theorem dX12_unit_126 : decode cX12_unit 126 = .ok (.aload_n 0, 1) := by decide +kernel
theorem dX12_unit_127 : decode cX12_unit 127 = .ok (.invokevirtual 288, 3) := by decide +kernel
theorem dX12_unit_130 : decode cX12_unit 130 = .ok (.ifCond .eq 8, 3) := by decide +kernel
theorem dX12_unit_133 : decode cX12_unit 133 = .ok (.aload_n 0, 1) := by decide +kernel
theorem dX12_unit_134 : decode cX12_unit 134 = .ok (.iconst 2, 1) := by decide +kernel
theorem dX12_unit_135 : decode cX12_unit 135 = .ok (.invokevirtual 241, 3) := by decide +kernel
theorem dX12_unit_138 : decode cX12_unit 138 = .ok (.aload_n 0, 1) := by decide +kernel
theorem dX12_unit_139 : decode cX12_unit 139 = .ok (.getfield 188, 3) := by decide +kernel
theorem dX12_unit_142 : decode cX12_unit 142 = .ok (.ifCond .le 4, 3) := by decide +kernel
theorem dX12_unit_145 : decode cX12_unit 145 = .ok (.return_, 1) := by decide +kernel
theorem dX12_unit_146 : decode cX12_unit 146 = .ok (.aload_n 0, 1) := by decide +kernel
theorem dX12_unit_147 : decode cX12_unit 147 = .ok (.invokevirtual 291, 3) := by decide +kernel
theorem dX12_unit_150 : decode cX12_unit 150 = .ok (.aload_n 0, 1) := by decide +kernel
theorem dX12_unit_151 : decode cX12_unit 151 = .ok (.iload_n 2, 1) := by decide +kernel
theorem dX12_unit_152 : decode cX12_unit 152 = .ok (.ifCond .ge 7, 3) := by decide +kernel
theorem dX12_unit_155 : decode cX12_unit 155 = .ok (.iconst 0, 1) := by decide +kernel
theorem dX12_unit_156 : decode cX12_unit 156 = .ok (.goto 4, 3) := by decide +kernel
theorem dX12_unit_159 : decode cX12_unit 159 = .ok (.iconst 1, 1) := by decide +kernel
theorem dX12_unit_160 : decode cX12_unit 160 = .ok (.iload_n 2, 1) := by decide +kernel
theorem dX12_unit_161 : decode cX12_unit 161 = .ok (.ifCond .ge 10, 3) := by decide +kernel
theorem dX12_unit_164 : decode cX12_unit 164 = .ok (.aload_n 0, 1) := by decide +kernel
theorem dX12_unit_165 : decode cX12_unit 165 = .ok (.getfield 172, 3) := by decide +kernel
theorem dX12_unit_168 : decode cX12_unit 168 = .ok (.goto 4, 3) := by decide +kernel
theorem dX12_unit_171 : decode cX12_unit 171 = .ok (.iload_n 2, 1) := by decide +kernel
theorem dX12_unit_172 : decode cX12_unit 172 = .ok (.invokevirtual 270, 3) := by decide +kernel
theorem dX12_unit_175 : decode cX12_unit 175 = .ok (.aload_n 0, 1) := by decide +kernel
theorem dX12_unit_176 : decode cX12_unit 176 = .ok (.invokevirtual 244, 3) := by decide +kernel
theorem dX12_unit_179 : decode cX12_unit 179 = .ok (.return_, 1) := by decide +kernel
theorem dX12_sign_0 : decode cX12_sign 0 = .ok (.aload_n 0, 1) := by decide +kernel
theorem dX12_sign_1 : decode cX12_sign 1 = .ok (.ldc2_w 227, 3) := by decide +kernel
theorem dX12_sign_4 : decode cX12_sign 4 = .ok (.invokevirtual 237, 3) := by decide +kernel
theorem dX12_sign_7 : decode cX12_sign 7 = .ok (.ifCond .eq 6, 3) := by decide +kernel
theorem dX12_sign_10 : decode cX12_sign 10 = .ok (.bipush 38, 2) := by decide +kernel
theorem dX12_sign_12 : decode cX12_sign 12 = .ok (.ireturn, 1) := by decide +kernel
theorem dX12_sign_13 : decode cX12_sign 13 = .ok (.aload_n 0, 1) := by decide +kernel
theorem dX12_sign_14 : decode cX12_sign 14 = .ok (.ldc2_w 229, 3) := by decide +kernel
theorem dX12_sign_17 : decode cX12_sign 17 = .ok (.invokevirtual 237, 3) := by decide +kernel
theorem dX12_sign_20 : decode cX12_sign 20 = .ok (.ifCond .eq 6, 3) := by decide +kernel
theorem dX12_sign_23 : decode cX12_sign 23 = .ok (.bipush 124, 2) := by decide +kernel
theorem dX12_sign_25 : decode cX12_sign 25 = .ok (.ireturn, 1) := by decide +kernel
theorem dX12_sign_26 : decode cX12_sign 26 = .ok (.aload_n 0, 1) := by decide +kernel
theorem dX12_sign_27 : decode cX12_sign 27 = .ok (.getfield 175, 3) := by decide +kernel
theorem dX12_sign_30 : decode cX12_sign 30 = .ok (.bipush 60, 2) := by decide +kernel
theorem dX12_sign_32 : decode cX12_sign 32 = .ok (.if_icmp .eq 66, 3) := by decide +kernel
theorem dX12_sign_35 : decode cX12_sign 35 = .ok (.aload_n 0, 1) := by decide +kernel
theorem dX12_sign_36 : decode cX12_sign 36 = .ok (.getfield 175, 3) := by decide +kernel
theorem dX12_sign_39 : decode cX12_sign 39 = .ok (.bipush 62, 2) := by decide +kernel
theorem dX12_sign_41 : decode cX12_sign 41 = .ok (.if_icmp .eq 57, 3) := by decide +kernel
theorem dX12_sign_44 : decode cX12_sign 44 = .ok (.aload_n 0, 1) := by decide +kernel
theorem dX12_sign_45 : decode cX12_sign 45 = .ok (.getfield 175, 3) := by decide +kernel
theorem dX12_sign_48 : decode cX12_sign 48 = .ok (.bipush 61, 2) := by decide +kernel
theorem dX12_sign_50 : decode cX12_sign 50 = .ok (.if_icmp .eq 48, 3) := by decide +kernel
theorem dX12_sign_53 : decode cX12_sign 53 = .ok (.aload_n 0, 1) := by decide +kernel
theorem dX12_sign_54 : decode cX12_sign 54 = .ok (.getfield 175, 3) := by decide +kernel
theorem dX12_sign_57 : decode cX12_sign 57 = .ok (.bipush 43, 2) := by decide +kernel
theorem dX12_sign_59 : decode cX12_sign 59 = .ok (.if_icmp .eq 39, 3) := by decide +kernel
theorem dX12_sign_62 : decode cX12_sign 62 = .ok (.aload_n 0, 1) := by decide +kernel
theorem dX12_sign_63 : decode cX12_sign 63 = .ok (.getfield 175, 3) := by decide +kernel
theorem dX12_sign_66 : decode cX12_sign 66 = .ok (.bipush 45, 2) := by decide +kernel
theorem dX12_sign_68 : decode cX12_sign 68 = .ok (.if_icmp .eq 30, 3) := by decide +kernel
theorem dX12_sign_71 : decode cX12_sign 71 = .ok (.aload_n 0, 1) := by decide +kernel
theorem dX12_sign_72 : decode cX12_sign 72 = .ok (.getfield 175, 3) := by decide +kernel
theorem dX12_sign_75 : decode cX12_sign 75 = .ok (.bipush 42, 2) := by decide +kernel
theorem dX12_sign_77 : decode cX12_sign 77 = .ok (.if_icmp .eq 21, 3) := by decide +kernel
theorem dX12_sign_80 : decode cX12_sign 80 = .ok (.aload_n 0, 1) := by decide +kernel
theorem dX12_sign_81 : decode cX12_sign 81 = .ok (.getfield 175, 3) := by decide +kernel
theorem dX12_sign_84 : decode cX12_sign 84 = .ok (.bipush 47, 2) := by decide +kernel
theorem dX12_sign_86 : decode cX12_sign 86 = .ok (.if_icmp .eq 12, 3) := by decide +kernel
theorem dX12_sign_89 : decode cX12_sign 89 = .ok (.aload_n 0, 1) := by decide +kernel
theorem dX12_sign_90 : decode cX12_sign 90 = .ok (.getfield 175, 3) := by decide +kernel
theorem dX12_sign_93 : decode cX12_sign 93 = .ok (.bipush 37, 2) := by decide +kernel
theorem dX12_sign_95 : decode cX12_sign 95 = .ok (.if_icmp .ne 10, 3) := by decide +kernel
theorem dX12_sign_98 : decode cX12_sign 98 = .ok (.aload_n 0, 1) := by decide +kernel
theorem dX12_sign_99 : decode cX12_sign 99 = .ok (.getfield 175, 3) := by decide +kernel
theorem dX12_sign_102 : decode cX12_sign 102 = .ok (.goto 4, 3) := by decide +kernel
theorem dX12_sign_105 : decode cX12_sign 105 = .ok (.iconst 0, 1) := by decide +kernel
theorem dX12_sign_106 : decode cX12_sign 106 = .ok (.ireturn, 1) := by decide +kernel
theorem dX12_hasBracket_0 : decode cX12_hasBracket 0 = .ok (.iconst 0, 1) := by decide +kernel
theorem dX12_hasBracket_1 : decode cX12_hasBracket 1 = .ok (.istore_n 1, 1) := by decide +kernel
theorem dX12_hasBracket_2 : decode cX12_hasBracket 2 = .ok (.iconst 0, 1) := by decide +kernel
theorem dX12_hasBracket_3 : decode cX12_hasBracket 3 = .ok (.istore_n 2, 1) := by decide +kernel
theorem dX12_hasBracket_4 : decode cX12_hasBracket 4 = .ok (.iload_n 2, 1) := by decide +kernel
theorem dX12_hasBracket_5 : decode cX12_hasBracket 5 = .ok (.aload_n 0, 1) := by decide +kernel
theorem dX12_hasBracket_6 : decode cX12_hasBracket 6 = .ok (.getfield 264, 3) := by decide +kernel
theorem dX12_hasBracket_9 : decode cX12_hasBracket 9 = .ok (.if_icmp .ge 30, 3) := by decide +kernel
theorem dX12_hasBracket_12 : decode cX12_hasBracket 12 = .ok (.iload_n 1, 1) := by decide +kernel
theorem dX12_hasBracket_13 : decode cX12_hasBracket 13 = .ok (.ifCond .ne 14, 3) := by decide +kernel
theorem dX12_hasBracket_16 : decode cX12_hasBracket 16 = .ok (.aload_n 0, 1) := by decide +kernel
theorem dX12_hasBracket_17 : decode cX12_hasBracket 17 = .ok (.getfield 33, 3) := by decide +kernel
theorem dX12_hasBracket_20 : decode cX12_hasBracket 20 = .ok (.iload_n 2, 1) := by decide +kernel
theorem dX12_hasBracket_21 : decode cX12_hasBracket 21 = .ok (.iaload, 1) := by decide +kernel
theorem dX12_hasBracket_22 : decode cX12_hasBracket 22 = .ok (.bipush 20, 2) := by decide +kernel
theorem dX12_hasBracket_24 : decode cX12_hasBracket 24 = .ok (.if_icmp .ne 7, 3) := by decide +kernel
theorem dX12_hasBracket_27 : decode cX12_hasBracket 27 = .ok (.iconst 1, 1) := by decide +kernel
theorem dX12_hasBracket_28 : decode cX12_hasBracket 28 = .ok (.goto 4, 3) := by decide +kernel
theorem dX12_hasBracket_31 : decode cX12_hasBracket 31 = .ok (.iconst 0, 1) := by decide +kernel
theorem dX12_hasBracket_32 : decode cX12_hasBracket 32 = .ok (.istore_n 1, 1) := by decide +kernel
theorem dX12_hasBracket_33 : decode cX12_hasBracket 33 = .ok (.iinc 2 1, 3) := by decide +kernel
theorem dX12_hasBracket_36 : decode cX12_hasBracket 36 = .ok (.goto (-32), 3) := by decide +kernel
theorem dX12_hasBracket_39 : decode cX12_hasBracket 39 = .ok (.iload_n 1, 1) := by decide +kernel
theorem dX12_hasBracket_40 : decode cX12_hasBracket 40 = .ok (.ireturn, 1) := by decide +kernel
theorem dX12_readShade_0 : decode cX12_readShade 0 = .ok (.aload_n 0, 1) := by decide +kernel
theorem dX12_readShade_1 : decode cX12_readShade 1 = .ok (.invokevirtual 244, 3) := by decide +kernel
theorem dX12_readShade_4 : decode cX12_readShade 4 = .ok (.aload_n 0, 1) := by decide +kernel
theorem dX12_readShade_5 : decode cX12_readShade 5 = .ok (.iconst 0, 1) := by decide +kernel
theorem dX12_readShade_6 : decode cX12_readShade 6 = .ok (.putfield 261, 3) := by decide +kernel
theorem dX12_readShade_9 : decode cX12_readShade 9 = .ok (.aload_n 0, 1) := by decide +kernel
theorem dX12_readShade_10 : decode cX12_readShade 10 = .ok (.iconst 0, 1) := by decide +kernel
theorem dX12_readShade_11 : decode cX12_readShade 11 = .ok (.putfield 264, 3) := by decide +kernel
theorem dX12_readShade_14 : decode cX12_readShade 14 = .ok (.aload_n 0, 1) := by decide +kernel
theorem dX12_readShade_15 : decode cX12_readShade 15 = .ok (.iconst 0, 1) := by decide +kernel
theorem dX12_readShade_16 : decode cX12_readShade 16 = .ok (.putfield 273, 3) := by decide +kernel
theorem dX12_readShade_19 : decode cX12_readShade 19 = .ok (.aload_n 0, 1) := by decide +kernel
theorem dX12_readShade_20 : decode cX12_readShade 20 = .ok (.iconst 0, 1) := by decide +kernel
theorem dX12_readShade_21 : decode cX12_readShade 21 = .ok (.putfield 279, 3) := by decide +kernel
theorem dX12_readShade_24 : decode cX12_readShade 24 = .ok (.aload_n 0, 1) := by decide +kernel
theorem dX12_readShade_25 : decode cX12_readShade 25 = .ok (.invokevirtual 298, 3) := by decide +kernel
theorem dX12_readShade_28 : decode cX12_readShade 28 = .ok (.iconst 1, 1) := by decide +kernel
theorem dX12_readShade_29 : decode cX12_readShade 29 = .ok (.istore_n 1, 1) := by decide +kernel
theorem dX12_readShade_30 : decode cX12_readShade 30 = .ok (.iload_n 1, 1) := by decide +kernel
theorem dX12_readShade_31 : decode cX12_readShade 31 = .ok (.ifCond .eq 126, 3) := by decide +kernel
theorem dX12_readShade_34 : decode cX12_readShade 34 = .ok (.aload_n 0, 1) := by decide +kernel
theorem dX12_readShade_35 : decode cX12_readShade 35 = .ok (.getfield 188, 3) := by decide +kernel
theorem dX12_readShade_38 : decode cX12_readShade 38 = .ok (.ifCond .ne 119, 3) := by decide +kernel
theorem dX12_readShade_41 : decode cX12_readShade 41 = .ok (.aload_n 0, 1) := by decide +kernel
theorem dX12_readShade_42 : decode cX12_readShade 42 = .ok (.invokevirtual 301, 3) := by decide +kernel
theorem dX12_readShade_45 : decode cX12_readShade 45 = .ok (.istore_n 2, 1) := by decide +kernel
theorem dX12_readShade_46 : decode cX12_readShade 46 = .ok (.aload_n 0, 1) := by decide +kernel
theorem dX12_readShade_47 : decode cX12_readShade 47 = .ok (.getfield 175, 3) := by decide +kernel
theorem dX12_readShade_50 : decode cX12_readShade 50 = .ok (.bipush 41, 2) := by decide +kernel
theorem dX12_readShade_52 : decode cX12_readShade 52 = .ok (.if_icmp .ne 42, 3) := by decide +kernel
theorem dX12_readShade_55 : decode cX12_readShade 55 = .ok (.aload_n 0, 1) := by decide +kernel
theorem dX12_readShade_56 : decode cX12_readShade 56 = .ok (.invokevirtual 304, 3) := by decide +kernel
theorem dX12_readShade_59 : decode cX12_readShade 59 = .ok (.ifCond .eq 35, 3) := by decide +kernel
theorem dX12_readShade_62 : decode cX12_readShade 62 = .ok (.aload_n 0, 1) := by decide +kernel
theorem dX12_readShade_63 : decode cX12_readShade 63 = .ok (.iconst 0, 1) := by decide +kernel
theorem dX12_readShade_64 : decode cX12_readShade 64 = .ok (.invokevirtual 307, 3) := by decide +kernel
theorem dX12_readShade_67 : decode cX12_readShade 67 = .ok (.aload_n 0, 1) := by decide +kernel
theorem dX12_readShade_68 : decode cX12_readShade 68 = .ok (.dup, 1) := by decide +kernel
theorem dX12_readShade_69 : decode cX12_readShade 69 = .ok (.getfield 264, 3) := by decide +kernel
theorem dX12_readShade_72 : decode cX12_readShade 72 = .ok (.iconst 1, 1) := by decide +kernel
theorem dX12_readShade_73 : decode cX12_readShade 73 = .ok (.isub, 1) := by decide +kernel
theorem dX12_readShade_74 : decode cX12_readShade 74 = .ok (.putfield 264, 3) := by decide +kernel
theorem dX12_readShade_77 : decode cX12_readShade 77 = .ok (.aload_n 0, 1) := by decide +kernel
theorem dX12_readShade_78 : decode cX12_readShade 78 = .ok (.dup, 1) := by decide +kernel
theorem dX12_readShade_79 : decode cX12_readShade 79 = .ok (.getfield 273, 3) := by decide +kernel
theorem dX12_readShade_82 : decode cX12_readShade 82 = .ok (.iconst 1, 1) := by decide +kernel
theorem dX12_readShade_83 : decode cX12_readShade 83 = .ok (.isub, 1) := by decide +kernel
theorem dX12_readShade_84 : decode cX12_readShade 84 = .ok (.putfield 273, 3) := by decide +kernel
theorem dX12_readShade_87 : decode cX12_readShade 87 = .ok (.aload_n 0, 1) := by decide +kernel
theorem dX12_readShade_88 : decode cX12_readShade 88 = .ok (.invokevirtual 244, 3) := by decide +kernel
theorem dX12_readShade_91 : decode cX12_readShade 91 = .ok (.goto 63, 3) := by decide +kernel
theorem dX12_readShade_94 : decode cX12_readShade 94 = .ok (.iload_n 2, 1) := by decide +kernel
theorem dX12_readShade_95 : decode cX12_readShade 95 = .ok (.ifCond .eq 57, 3) := by decide +kernel
theorem dX12_readShade_98 : decode cX12_readShade 98 = .ok (.iload_n 2, 1) := by decide +kernel
theorem dX12_readShade_99 : decode cX12_readShade 99 = .ok (.invokestatic 267, 3) := by decide +kernel
theorem dX12_readShade_102 : decode cX12_readShade 102 = .ok (.iconst 4, 1) := by decide +kernel
theorem dX12_readShade_103 : decode cX12_readShade 103 = .ok (.if_icmp .ne 10, 3) := by decide +kernel
theorem dX12_readShade_106 : decode cX12_readShade 106 = .ok (.aload_n 0, 1) := by decide +kernel
theorem dX12_readShade_107 : decode cX12_readShade 107 = .ok (.invokevirtual 310, 3) := by decide +kernel
theorem dX12_readShade_110 : decode cX12_readShade 110 = .ok (.ifCond .ne 42, 3) := by decide +kernel
theorem dX12_readShade_113 : decode cX12_readShade 113 = .ok (.aload_n 0, 1) := by decide +kernel
theorem dX12_readShade_114 : decode cX12_readShade 114 = .ok (.iload_n 2, 1) := by decide +kernel
theorem dX12_readShade_115 : decode cX12_readShade 115 = .ok (.invokestatic 267, 3) := by decide +kernel
theorem dX12_readShade_118 : decode cX12_readShade 118 = .ok (.invokevirtual 307, 3) := by decide +kernel
theorem dX12_readShade_121 : decode cX12_readShade 121 = .ok (.aload_n 0, 1) := by decide +kernel
theorem dX12_readShade_122 : decode cX12_readShade 122 = .ok (.getfield 33, 3) := by decide +kernel
theorem dX12_readShade_125 : decode cX12_readShade 125 = .ok (.aload_n 0, 1) := by decide +kernel
theorem dX12_readShade_126 : decode cX12_readShade 126 = .ok (.getfield 264, 3) := by decide +kernel
theorem dX12_readShade_129 : decode cX12_readShade 129 = .ok (.iload_n 2, 1) := by decide +kernel
theorem dX12_readShade_130 : decode cX12_readShade 130 = .ok (.iastore, 1) := by decide +kernel
theorem dX12_readShade_131 : decode cX12_readShade 131 = .ok (.aload_n 0, 1) := by decide +kernel
theorem dX12_readShade_132 : decode cX12_readShade 132 = .ok (.dup, 1) := by decide +kernel
theorem dX12_readShade_133 : decode cX12_readShade 133 = .ok (.getfield 264, 3) := by decide +kernel
theorem dX12_readShade_136 : decode cX12_readShade 136 = .ok (.iconst 1, 1) := by decide +kernel
theorem dX12_readShade_137 : decode cX12_readShade 137 = .ok (.iadd, 1) := by decide +kernel
theorem dX12_readShade_138 : decode cX12_readShade 138 = .ok (.putfield 264, 3) := by decide +kernel
theorem dX12_readShade_141 : decode cX12_readShade 141 = .ok (.aload_n 0, 1) := by decide +kernel
theorem dX12_readShade_142 : decode cX12_readShade 142 = .ok (.invokevirtual 244, 3) := by decide +kernel
theorem dX12_readShade_145 : decode cX12_readShade 145 = .ok (.aload_n 0, 1) := by decide +kernel
theorem dX12_readShade_146 : decode cX12_readShade 146 = .ok (.invokevirtual 298, 3) := by decide +kernel
theorem dX12_readShade_149 : decode cX12_readShade 149 = .ok (.goto 5, 3) := by decide +kernel
theorem dX12_readShade_152 : decode cX12_readShade 152 = .ok (.iconst 0, 1) := by decide +kernel
theorem dX12_readShade_153 : decode cX12_readShade 153 = .ok (.istore_n 1, 1) := by decide +kernel
theorem dX12_readShade_154 : decode cX12_readShade 154 = .ok (.goto (-124), 3) := by decide +kernel
theorem dX12_readShade_157 : decode cX12_readShade 157 = .ok (.aload_n 0, 1) := by decide +kernel
theorem dX12_readShade_158 : decode cX12_readShade 158 = .ok (.getfield 188, 3) := by decide +kernel
theorem dX12_readShade_161 : decode cX12_readShade 161 = .ok (.ifCond .ne 15, 3) := by decide +kernel
theorem dX12_readShade_164 : decode cX12_readShade 164 = .ok (.aload_n 0, 1) := by decide +kernel
theorem dX12_readShade_165 : decode cX12_readShade 165 = .ok (.invokevirtual 304, 3) := by decide +kernel
theorem dX12_readShade_168 : decode cX12_readShade 168 = .ok (.ifCond .eq 8, 3) := by decide +kernel
theorem dX12_readShade_171 : decode cX12_readShade 171 = .ok (.aload_n 0, 1) := by decide +kernel
theorem dX12_readShade_172 : decode cX12_readShade 172 = .ok (.iconst 2, 1) := by decide +kernel
theorem dX12_readShade_173 : decode cX12_readShade 173 = .ok (.invokevirtual 241, 3) := by decide +kernel
theorem dX12_readShade_176 : decode cX12_readShade 176 = .ok (.aload_n 0, 1) := by decide +kernel
theorem dX12_readShade_177 : decode cX12_readShade 177 = .ok (.getfield 188, 3) := by decide +kernel
theorem dX12_readShade_180 : decode cX12_readShade 180 = .ok (.ifCond .ne 8, 3) := by decide +kernel
theorem dX12_readShade_183 : decode cX12_readShade 183 = .ok (.aload_n 0, 1) := by decide +kernel
theorem dX12_readShade_184 : decode cX12_readShade 184 = .ok (.iconst 0, 1) := by decide +kernel
theorem dX12_readShade_185 : decode cX12_readShade 185 = .ok (.invokevirtual 307, 3) := by decide +kernel
theorem dX12_readShade_188 : decode cX12_readShade 188 = .ok (.return_, 1) := by decide +kernel
theorem dX12_truth_0 : decode cX12_truth 0 = .ok (.iload_n 0, 1) := by decide +kernel
theorem dX12_truth_1 : decode cX12_truth 1 = .ok (.ifCond .eq 7, 3) := by decide +kernel
theorem dX12_truth_4 : decode cX12_truth 4 = .ok (.iconst 1, 1) := by decide +kernel
theorem dX12_truth_5 : decode cX12_truth 5 = .ok (.goto 4, 3) := by decide +kernel
theorem dX12_truth_8 : decode cX12_truth 8 = .ok (.iconst 0, 1) := by decide +kernel
theorem dX12_truth_9 : decode cX12_truth 9 = .ok (.ireturn, 1) := by decide +kernel
theorem dX12_done_0 : decode cX12_done 0 = .ok (.iload_n 0, 1) := by decide +kernel
theorem dX12_done_1 : decode cX12_done 1 = .ok (.tableswitch 214 37 62 #[143, 197, 214, 214, 214, 127, 119, 214, 123, 214, 131, 214, 214, 214, 214, 214, 214, 214, 214, 214, 214, 214, 214, 155, 183, 169], 119) := by decide +kernel
theorem dX12_done_120 : decode cX12_done 120 = .ok (.iload_n 1, 1) := by decide +kernel
theorem dX12_done_121 : decode cX12_done 121 = .ok (.iload_n 2, 1) := by decide +kernel
theorem dX12_done_122 : decode cX12_done 122 = .ok (.iadd, 1) := by decide +kernel
theorem dX12_done_123 : decode cX12_done 123 = .ok (.ireturn, 1) := by decide +kernel
theorem dX12_done_124 : decode cX12_done 124 = .ok (.iload_n 1, 1) := by decide +kernel
theorem dX12_done_125 : decode cX12_done 125 = .ok (.iload_n 2, 1) := by decide +kernel
theorem dX12_done_126 : decode cX12_done 126 = .ok (.isub, 1) := by decide +kernel
theorem dX12_done_127 : decode cX12_done 127 = .ok (.ireturn, 1) := by decide +kernel
theorem dX12_done_128 : decode cX12_done 128 = .ok (.iload_n 1, 1) := by decide +kernel
theorem dX12_done_129 : decode cX12_done 129 = .ok (.iload_n 2, 1) := by decide +kernel
theorem dX12_done_130 : decode cX12_done 130 = .ok (.imul, 1) := by decide +kernel
theorem dX12_done_131 : decode cX12_done 131 = .ok (.ireturn, 1) := by decide +kernel
theorem dX12_done_132 : decode cX12_done 132 = .ok (.iload_n 2, 1) := by decide +kernel
theorem dX12_done_133 : decode cX12_done 133 = .ok (.ifCond .ne 7, 3) := by decide +kernel
theorem dX12_done_136 : decode cX12_done 136 = .ok (.iconst 0, 1) := by decide +kernel
theorem dX12_done_137 : decode cX12_done 137 = .ok (.goto 6, 3) := by decide +kernel
theorem dX12_done_140 : decode cX12_done 140 = .ok (.iload_n 1, 1) := by decide +kernel
theorem dX12_done_141 : decode cX12_done 141 = .ok (.iload_n 2, 1) := by decide +kernel
theorem dX12_done_142 : decode cX12_done 142 = .ok (.idiv, 1) := by decide +kernel
theorem dX12_done_143 : decode cX12_done 143 = .ok (.ireturn, 1) := by decide +kernel
theorem dX12_done_144 : decode cX12_done 144 = .ok (.iload_n 2, 1) := by decide +kernel
theorem dX12_done_145 : decode cX12_done 145 = .ok (.ifCond .ne 7, 3) := by decide +kernel
theorem dX12_done_148 : decode cX12_done 148 = .ok (.iconst 0, 1) := by decide +kernel
theorem dX12_done_149 : decode cX12_done 149 = .ok (.goto 6, 3) := by decide +kernel
theorem dX12_done_152 : decode cX12_done 152 = .ok (.iload_n 1, 1) := by decide +kernel
theorem dX12_done_153 : decode cX12_done 153 = .ok (.iload_n 2, 1) := by decide +kernel
theorem dX12_done_154 : decode cX12_done 154 = .ok (.irem, 1) := by decide +kernel
theorem dX12_done_155 : decode cX12_done 155 = .ok (.ireturn, 1) := by decide +kernel
theorem dX12_done_156 : decode cX12_done 156 = .ok (.iload_n 1, 1) := by decide +kernel
theorem dX12_done_157 : decode cX12_done 157 = .ok (.iload_n 2, 1) := by decide +kernel
theorem dX12_done_158 : decode cX12_done 158 = .ok (.if_icmp .ge 7, 3) := by decide +kernel
theorem dX12_done_161 : decode cX12_done 161 = .ok (.iconst 1, 1) := by decide +kernel
theorem dX12_done_162 : decode cX12_done 162 = .ok (.goto 4, 3) := by decide +kernel
theorem dX12_done_165 : decode cX12_done 165 = .ok (.iconst 0, 1) := by decide +kernel
theorem dX12_done_166 : decode cX12_done 166 = .ok (.invokestatic 313, 3) := by decide +kernel
theorem dX12_done_169 : decode cX12_done 169 = .ok (.ireturn, 1) := by decide +kernel
theorem dX12_done_170 : decode cX12_done 170 = .ok (.iload_n 1, 1) := by decide +kernel
theorem dX12_done_171 : decode cX12_done 171 = .ok (.iload_n 2, 1) := by decide +kernel
theorem dX12_done_172 : decode cX12_done 172 = .ok (.if_icmp .le 7, 3) := by decide +kernel
theorem dX12_done_175 : decode cX12_done 175 = .ok (.iconst 1, 1) := by decide +kernel
theorem dX12_done_176 : decode cX12_done 176 = .ok (.goto 4, 3) := by decide +kernel
theorem dX12_done_179 : decode cX12_done 179 = .ok (.iconst 0, 1) := by decide +kernel
theorem dX12_done_180 : decode cX12_done 180 = .ok (.invokestatic 313, 3) := by decide +kernel
theorem dX12_done_183 : decode cX12_done 183 = .ok (.ireturn, 1) := by decide +kernel
theorem dX12_done_184 : decode cX12_done 184 = .ok (.iload_n 1, 1) := by decide +kernel
theorem dX12_done_185 : decode cX12_done 185 = .ok (.iload_n 2, 1) := by decide +kernel
theorem dX12_done_186 : decode cX12_done 186 = .ok (.if_icmp .ne 7, 3) := by decide +kernel
theorem dX12_done_189 : decode cX12_done 189 = .ok (.iconst 1, 1) := by decide +kernel
theorem dX12_done_190 : decode cX12_done 190 = .ok (.goto 4, 3) := by decide +kernel
theorem dX12_done_193 : decode cX12_done 193 = .ok (.iconst 0, 1) := by decide +kernel
theorem dX12_done_194 : decode cX12_done 194 = .ok (.invokestatic 313, 3) := by decide +kernel
theorem dX12_done_197 : decode cX12_done 197 = .ok (.ireturn, 1) := by decide +kernel
theorem dX12_done_198 : decode cX12_done 198 = .ok (.iload_n 1, 1) := by decide +kernel
theorem dX12_done_199 : decode cX12_done 199 = .ok (.ifCond .eq 11, 3) := by decide +kernel
theorem dX12_done_202 : decode cX12_done 202 = .ok (.iload_n 2, 1) := by decide +kernel
theorem dX12_done_203 : decode cX12_done 203 = .ok (.ifCond .eq 7, 3) := by decide +kernel
theorem dX12_done_206 : decode cX12_done 206 = .ok (.iconst 1, 1) := by decide +kernel
theorem dX12_done_207 : decode cX12_done 207 = .ok (.goto 4, 3) := by decide +kernel
theorem dX12_done_210 : decode cX12_done 210 = .ok (.iconst 0, 1) := by decide +kernel
theorem dX12_done_211 : decode cX12_done 211 = .ok (.invokestatic 313, 3) := by decide +kernel
theorem dX12_done_214 : decode cX12_done 214 = .ok (.ireturn, 1) := by decide +kernel
theorem dX12_done_215 : decode cX12_done 215 = .ok (.iload_n 1, 1) := by decide +kernel
theorem dX12_done_216 : decode cX12_done 216 = .ok (.ifCond .ne 7, 3) := by decide +kernel
theorem dX12_done_219 : decode cX12_done 219 = .ok (.iload_n 2, 1) := by decide +kernel
theorem dX12_done_220 : decode cX12_done 220 = .ok (.ifCond .eq 7, 3) := by decide +kernel
theorem dX12_done_223 : decode cX12_done 223 = .ok (.iconst 1, 1) := by decide +kernel
theorem dX12_done_224 : decode cX12_done 224 = .ok (.goto 4, 3) := by decide +kernel
theorem dX12_done_227 : decode cX12_done 227 = .ok (.iconst 0, 1) := by decide +kernel
theorem dX12_done_228 : decode cX12_done 228 = .ok (.invokestatic 313, 3) := by decide +kernel
theorem dX12_done_231 : decode cX12_done 231 = .ok (.ireturn, 1) := by decide +kernel
theorem dX12_shadeOf_0 : decode cX12_shadeOf 0 = .ok (.aload_n 0, 1) := by decide +kernel
theorem dX12_shadeOf_1 : decode cX12_shadeOf 1 = .ok (.getfield 39, 3) := by decide +kernel
theorem dX12_shadeOf_4 : decode cX12_shadeOf 4 = .ok (.iconst 0, 1) := by decide +kernel
theorem dX12_shadeOf_5 : decode cX12_shadeOf 5 = .ok (.iload_n 1, 1) := by decide +kernel
theorem dX12_shadeOf_6 : decode cX12_shadeOf 6 = .ok (.iastore, 1) := by decide +kernel
theorem dX12_shadeOf_7 : decode cX12_shadeOf 7 = .ok (.aload_n 0, 1) := by decide +kernel
theorem dX12_shadeOf_8 : decode cX12_shadeOf 8 = .ok (.getfield 39, 3) := by decide +kernel
theorem dX12_shadeOf_11 : decode cX12_shadeOf 11 = .ok (.iconst 1, 1) := by decide +kernel
theorem dX12_shadeOf_12 : decode cX12_shadeOf 12 = .ok (.iload_n 2, 1) := by decide +kernel
theorem dX12_shadeOf_13 : decode cX12_shadeOf 13 = .ok (.iastore, 1) := by decide +kernel
theorem dX12_shadeOf_14 : decode cX12_shadeOf 14 = .ok (.aload_n 0, 1) := by decide +kernel
theorem dX12_shadeOf_15 : decode cX12_shadeOf 15 = .ok (.getfield 39, 3) := by decide +kernel
theorem dX12_shadeOf_18 : decode cX12_shadeOf 18 = .ok (.iconst 2, 1) := by decide +kernel
theorem dX12_shadeOf_19 : decode cX12_shadeOf 19 = .ok (.iload_n 3, 1) := by decide +kernel
theorem dX12_shadeOf_20 : decode cX12_shadeOf 20 = .ok (.iastore, 1) := by decide +kernel
theorem dX12_shadeOf_21 : decode cX12_shadeOf 21 = .ok (.aload_n 0, 1) := by decide +kernel
theorem dX12_shadeOf_22 : decode cX12_shadeOf 22 = .ok (.getfield 36, 3) := by decide +kernel
theorem dX12_shadeOf_25 : decode cX12_shadeOf 25 = .ok (.iconst 0, 1) := by decide +kernel
theorem dX12_shadeOf_26 : decode cX12_shadeOf 26 = .ok (.iconst 0, 1) := by decide +kernel
theorem dX12_shadeOf_27 : decode cX12_shadeOf 27 = .ok (.iastore, 1) := by decide +kernel
theorem dX12_shadeOf_28 : decode cX12_shadeOf 28 = .ok (.iconst 0, 1) := by decide +kernel
theorem dX12_shadeOf_29 : decode cX12_shadeOf 29 = .ok (.istore 4, 2) := by decide +kernel
theorem dX12_shadeOf_31 : decode cX12_shadeOf 31 = .ok (.iconst 0, 1) := by decide +kernel
theorem dX12_shadeOf_32 : decode cX12_shadeOf 32 = .ok (.istore 5, 2) := by decide +kernel
theorem dX12_shadeOf_34 : decode cX12_shadeOf 34 = .ok (.iload 5, 2) := by decide +kernel
theorem dX12_shadeOf_36 : decode cX12_shadeOf 36 = .ok (.aload_n 0, 1) := by decide +kernel
theorem dX12_shadeOf_37 : decode cX12_shadeOf 37 = .ok (.getfield 317, 3) := by decide +kernel
theorem dX12_shadeOf_40 : decode cX12_shadeOf 40 = .ok (.if_icmp .ge 156, 3) := by decide +kernel
theorem dX12_shadeOf_43 : decode cX12_shadeOf 43 = .ok (.aload_n 0, 1) := by decide +kernel
theorem dX12_shadeOf_44 : decode cX12_shadeOf 44 = .ok (.getfield 27, 3) := by decide +kernel
theorem dX12_shadeOf_47 : decode cX12_shadeOf 47 = .ok (.iload 5, 2) := by decide +kernel
theorem dX12_shadeOf_49 : decode cX12_shadeOf 49 = .ok (.iaload, 1) := by decide +kernel
theorem dX12_shadeOf_50 : decode cX12_shadeOf 50 = .ok (.ifCond .eq 14, 3) := by decide +kernel
theorem dX12_shadeOf_53 : decode cX12_shadeOf 53 = .ok (.aload_n 0, 1) := by decide +kernel
theorem dX12_shadeOf_54 : decode cX12_shadeOf 54 = .ok (.getfield 27, 3) := by decide +kernel
theorem dX12_shadeOf_57 : decode cX12_shadeOf 57 = .ok (.iload 5, 2) := by decide +kernel
theorem dX12_shadeOf_59 : decode cX12_shadeOf 59 = .ok (.iaload, 1) := by decide +kernel
theorem dX12_shadeOf_60 : decode cX12_shadeOf 60 = .ok (.iconst 1, 1) := by decide +kernel
theorem dX12_shadeOf_61 : decode cX12_shadeOf 61 = .ok (.if_icmp .ne 48, 3) := by decide +kernel
theorem dX12_shadeOf_64 : decode cX12_shadeOf 64 = .ok (.aload_n 0, 1) := by decide +kernel
theorem dX12_shadeOf_65 : decode cX12_shadeOf 65 = .ok (.getfield 36, 3) := by decide +kernel
theorem dX12_shadeOf_68 : decode cX12_shadeOf 68 = .ok (.iload 4, 2) := by decide +kernel
theorem dX12_shadeOf_70 : decode cX12_shadeOf 70 = .ok (.aload_n 0, 1) := by decide +kernel
theorem dX12_shadeOf_71 : decode cX12_shadeOf 71 = .ok (.getfield 27, 3) := by decide +kernel
theorem dX12_shadeOf_74 : decode cX12_shadeOf 74 = .ok (.iload 5, 2) := by decide +kernel
theorem dX12_shadeOf_76 : decode cX12_shadeOf 76 = .ok (.iaload, 1) := by decide +kernel
theorem dX12_shadeOf_77 : decode cX12_shadeOf 77 = .ok (.ifCond .ne 13, 3) := by decide +kernel
theorem dX12_shadeOf_80 : decode cX12_shadeOf 80 = .ok (.aload_n 0, 1) := by decide +kernel
theorem dX12_shadeOf_81 : decode cX12_shadeOf 81 = .ok (.getfield 30, 3) := by decide +kernel
theorem dX12_shadeOf_84 : decode cX12_shadeOf 84 = .ok (.iload 5, 2) := by decide +kernel
theorem dX12_shadeOf_86 : decode cX12_shadeOf 86 = .ok (.iaload, 1) := by decide +kernel
theorem dX12_shadeOf_87 : decode cX12_shadeOf 87 = .ok (.goto 15, 3) := by decide +kernel
theorem dX12_shadeOf_90 : decode cX12_shadeOf 90 = .ok (.aload_n 0, 1) := by decide +kernel
theorem dX12_shadeOf_91 : decode cX12_shadeOf 91 = .ok (.getfield 39, 3) := by decide +kernel
theorem dX12_shadeOf_94 : decode cX12_shadeOf 94 = .ok (.aload_n 0, 1) := by decide +kernel
theorem dX12_shadeOf_95 : decode cX12_shadeOf 95 = .ok (.getfield 30, 3) := by decide +kernel
theorem dX12_shadeOf_98 : decode cX12_shadeOf 98 = .ok (.iload 5, 2) := by decide +kernel
theorem dX12_shadeOf_100 : decode cX12_shadeOf 100 = .ok (.iaload, 1) := by decide +kernel
theorem dX12_shadeOf_101 : decode cX12_shadeOf 101 = .ok (.iaload, 1) := by decide +kernel
theorem dX12_shadeOf_102 : decode cX12_shadeOf 102 = .ok (.iastore, 1) := by decide +kernel
theorem dX12_shadeOf_103 : decode cX12_shadeOf 103 = .ok (.iinc 4 1, 3) := by decide +kernel
theorem dX12_shadeOf_106 : decode cX12_shadeOf 106 = .ok (.goto 84, 3) := by decide +kernel
theorem dX12_shadeOf_109 : decode cX12_shadeOf 109 = .ok (.aload_n 0, 1) := by decide +kernel
theorem dX12_shadeOf_110 : decode cX12_shadeOf 110 = .ok (.getfield 27, 3) := by decide +kernel
theorem dX12_shadeOf_113 : decode cX12_shadeOf 113 = .ok (.iload 5, 2) := by decide +kernel
theorem dX12_shadeOf_115 : decode cX12_shadeOf 115 = .ok (.iaload, 1) := by decide +kernel
theorem dX12_shadeOf_116 : decode cX12_shadeOf 116 = .ok (.iconst 2, 1) := by decide +kernel
theorem dX12_shadeOf_117 : decode cX12_shadeOf 117 = .ok (.if_icmp .ne 35, 3) := by decide +kernel
theorem dX12_shadeOf_120 : decode cX12_shadeOf 120 = .ok (.aload_n 0, 1) := by decide +kernel
theorem dX12_shadeOf_121 : decode cX12_shadeOf 121 = .ok (.getfield 36, 3) := by decide +kernel
theorem dX12_shadeOf_124 : decode cX12_shadeOf 124 = .ok (.iload 4, 2) := by decide +kernel
theorem dX12_shadeOf_126 : decode cX12_shadeOf 126 = .ok (.iconst 1, 1) := by decide +kernel
theorem dX12_shadeOf_127 : decode cX12_shadeOf 127 = .ok (.isub, 1) := by decide +kernel
theorem dX12_shadeOf_128 : decode cX12_shadeOf 128 = .ok (.aload_n 0, 1) := by decide +kernel
theorem dX12_shadeOf_129 : decode cX12_shadeOf 129 = .ok (.getfield 36, 3) := by decide +kernel
theorem dX12_shadeOf_132 : decode cX12_shadeOf 132 = .ok (.iload 4, 2) := by decide +kernel
theorem dX12_shadeOf_134 : decode cX12_shadeOf 134 = .ok (.iconst 1, 1) := by decide +kernel
theorem dX12_shadeOf_135 : decode cX12_shadeOf 135 = .ok (.isub, 1) := by decide +kernel
theorem dX12_shadeOf_136 : decode cX12_shadeOf 136 = .ok (.iaload, 1) := by decide +kernel
theorem dX12_shadeOf_137 : decode cX12_shadeOf 137 = .ok (.ifCond .ne 7, 3) := by decide +kernel
theorem dX12_shadeOf_140 : decode cX12_shadeOf 140 = .ok (.iconst 1, 1) := by decide +kernel
theorem dX12_shadeOf_141 : decode cX12_shadeOf 141 = .ok (.goto 4, 3) := by decide +kernel
theorem dX12_shadeOf_144 : decode cX12_shadeOf 144 = .ok (.iconst 0, 1) := by decide +kernel
theorem dX12_shadeOf_145 : decode cX12_shadeOf 145 = .ok (.invokestatic 313, 3) := by decide +kernel
theorem dX12_shadeOf_148 : decode cX12_shadeOf 148 = .ok (.iastore, 1) := by decide +kernel
theorem dX12_shadeOf_149 : decode cX12_shadeOf 149 = .ok (.goto 41, 3) := by decide +kernel
theorem dX12_shadeOf_152 : decode cX12_shadeOf 152 = .ok (.iinc 4 (-1), 3) := by decide +kernel
theorem dX12_shadeOf_155 : decode cX12_shadeOf 155 = .ok (.aload_n 0, 1) := by decide +kernel
theorem dX12_shadeOf_156 : decode cX12_shadeOf 156 = .ok (.getfield 36, 3) := by decide +kernel
theorem dX12_shadeOf_159 : decode cX12_shadeOf 159 = .ok (.iload 4, 2) := by decide +kernel
theorem dX12_shadeOf_161 : decode cX12_shadeOf 161 = .ok (.iconst 1, 1) := by decide +kernel
theorem dX12_shadeOf_162 : decode cX12_shadeOf 162 = .ok (.isub, 1) := by decide +kernel
theorem dX12_shadeOf_163 : decode cX12_shadeOf 163 = .ok (.aload_n 0, 1) := by decide +kernel
theorem dX12_shadeOf_164 : decode cX12_shadeOf 164 = .ok (.getfield 30, 3) := by decide +kernel
theorem dX12_shadeOf_167 : decode cX12_shadeOf 167 = .ok (.iload 5, 2) := by decide +kernel
theorem dX12_shadeOf_169 : decode cX12_shadeOf 169 = .ok (.iaload, 1) := by decide +kernel
theorem dX12_shadeOf_170 : decode cX12_shadeOf 170 = .ok (.aload_n 0, 1) := by decide +kernel
theorem dX12_shadeOf_171 : decode cX12_shadeOf 171 = .ok (.getfield 36, 3) := by decide +kernel
theorem dX12_shadeOf_174 : decode cX12_shadeOf 174 = .ok (.iload 4, 2) := by decide +kernel
theorem dX12_shadeOf_176 : decode cX12_shadeOf 176 = .ok (.iconst 1, 1) := by decide +kernel
theorem dX12_shadeOf_177 : decode cX12_shadeOf 177 = .ok (.isub, 1) := by decide +kernel
theorem dX12_shadeOf_178 : decode cX12_shadeOf 178 = .ok (.iaload, 1) := by decide +kernel
theorem dX12_shadeOf_179 : decode cX12_shadeOf 179 = .ok (.aload_n 0, 1) := by decide +kernel
theorem dX12_shadeOf_180 : decode cX12_shadeOf 180 = .ok (.getfield 36, 3) := by decide +kernel
theorem dX12_shadeOf_183 : decode cX12_shadeOf 183 = .ok (.iload 4, 2) := by decide +kernel
theorem dX12_shadeOf_185 : decode cX12_shadeOf 185 = .ok (.iaload, 1) := by decide +kernel
theorem dX12_shadeOf_186 : decode cX12_shadeOf 186 = .ok (.invokestatic 320, 3) := by decide +kernel
theorem dX12_shadeOf_189 : decode cX12_shadeOf 189 = .ok (.iastore, 1) := by decide +kernel
theorem dX12_shadeOf_190 : decode cX12_shadeOf 190 = .ok (.iinc 5 1, 3) := by decide +kernel
theorem dX12_shadeOf_193 : decode cX12_shadeOf 193 = .ok (.goto (-159), 3) := by decide +kernel
theorem dX12_shadeOf_196 : decode cX12_shadeOf 196 = .ok (.aload_n 0, 1) := by decide +kernel
theorem dX12_shadeOf_197 : decode cX12_shadeOf 197 = .ok (.getfield 36, 3) := by decide +kernel
theorem dX12_shadeOf_200 : decode cX12_shadeOf 200 = .ok (.iconst 0, 1) := by decide +kernel
theorem dX12_shadeOf_201 : decode cX12_shadeOf 201 = .ok (.iaload, 1) := by decide +kernel
theorem dX12_shadeOf_202 : decode cX12_shadeOf 202 = .ok (.ireturn, 1) := by decide +kernel
theorem dX12_has_0 : decode cX12_has 0 = .ok (.lload_n 0, 1) := by decide +kernel
theorem dX12_has_1 : decode cX12_has 1 = .ok (.iload_n 2, 1) := by decide +kernel
theorem dX12_has_2 : decode cX12_has 2 = .ok (.lshr, 1) := by decide +kernel
theorem dX12_has_3 : decode cX12_has 3 = .ok (.lconst 1, 1) := by decide +kernel
theorem dX12_has_4 : decode cX12_has 4 = .ok (.land, 1) := by decide +kernel
theorem dX12_has_5 : decode cX12_has 5 = .ok (.lconst 1, 1) := by decide +kernel
theorem dX12_has_6 : decode cX12_has 6 = .ok (.lcmp, 1) := by decide +kernel
theorem dX12_has_7 : decode cX12_has 7 = .ok (.ifCond .ne 7, 3) := by decide +kernel
theorem dX12_has_10 : decode cX12_has 10 = .ok (.iconst 1, 1) := by decide +kernel
theorem dX12_has_11 : decode cX12_has 11 = .ok (.goto 4, 3) := by decide +kernel
theorem dX12_has_14 : decode cX12_has 14 = .ok (.iconst 0, 1) := by decide +kernel
theorem dX12_has_15 : decode cX12_has 15 = .ok (.ireturn, 1) := by decide +kernel
theorem dX12_readCell_0 : decode cX12_readCell 0 = .ok (.aload_n 0, 1) := by decide +kernel
theorem dX12_readCell_1 : decode cX12_readCell 1 = .ok (.iconst 0, 1) := by decide +kernel
theorem dX12_readCell_2 : decode cX12_readCell 2 = .ok (.aload_n 0, 1) := by decide +kernel
theorem dX12_readCell_3 : decode cX12_readCell 3 = .ok (.getfield 324, 3) := by decide +kernel
theorem dX12_readCell_6 : decode cX12_readCell 6 = .ok (.iconst 1, 1) := by decide +kernel
theorem dX12_readCell_7 : decode cX12_readCell 7 = .ok (.isub, 1) := by decide +kernel
theorem dX12_readCell_8 : decode cX12_readCell 8 = .ok (.invokevirtual 251, 3) := by decide +kernel
theorem dX12_readCell_11 : decode cX12_readCell 11 = .ok (.istore_n 3, 1) := by decide +kernel
theorem dX12_readCell_12 : decode cX12_readCell 12 = .ok (.aload_n 0, 1) := by decide +kernel
theorem dX12_readCell_13 : decode cX12_readCell 13 = .ok (.getfield 165, 3) := by decide +kernel
theorem dX12_readCell_16 : decode cX12_readCell 16 = .ok (.istore 4, 2) := by decide +kernel
theorem dX12_readCell_18 : decode cX12_readCell 18 = .ok (.aload_n 0, 1) := by decide +kernel
theorem dX12_readCell_19 : decode cX12_readCell 19 = .ok (.iconst 0, 1) := by decide +kernel
theorem dX12_readCell_20 : decode cX12_readCell 20 = .ok (.aload_n 0, 1) := by decide +kernel
theorem dX12_readCell_21 : decode cX12_readCell 21 = .ok (.getfield 327, 3) := by decide +kernel
theorem dX12_readCell_24 : decode cX12_readCell 24 = .ok (.iconst 1, 1) := by decide +kernel
theorem dX12_readCell_25 : decode cX12_readCell 25 = .ok (.isub, 1) := by decide +kernel
theorem dX12_readCell_26 : decode cX12_readCell 26 = .ok (.invokevirtual 251, 3) := by decide +kernel
theorem dX12_readCell_29 : decode cX12_readCell 29 = .ok (.istore 5, 2) := by decide +kernel
theorem dX12_readCell_31 : decode cX12_readCell 31 = .ok (.iload 5, 2) := by decide +kernel
theorem dX12_readCell_33 : decode cX12_readCell 33 = .ok (.aload_n 0, 1) := by decide +kernel
theorem dX12_readCell_34 : decode cX12_readCell 34 = .ok (.getfield 324, 3) := by decide +kernel
theorem dX12_readCell_37 : decode cX12_readCell 37 = .ok (.imul, 1) := by decide +kernel
theorem dX12_readCell_38 : decode cX12_readCell 38 = .ok (.iload_n 3, 1) := by decide +kernel
theorem dX12_readCell_39 : decode cX12_readCell 39 = .ok (.iadd, 1) := by decide +kernel
theorem dX12_readCell_40 : decode cX12_readCell 40 = .ok (.istore 6, 2) := by decide +kernel
theorem dX12_readCell_42 : decode cX12_readCell 42 = .ok (.aload_n 0, 1) := by decide +kernel
theorem dX12_readCell_43 : decode cX12_readCell 43 = .ok (.getfield 188, 3) := by decide +kernel
theorem dX12_readCell_46 : decode cX12_readCell 46 = .ok (.ifCond .ne 23, 3) := by decide +kernel
theorem dX12_readCell_49 : decode cX12_readCell 49 = .ok (.lload_n 1, 1) := by decide +kernel
theorem dX12_readCell_50 : decode cX12_readCell 50 = .ok (.iload 6, 2) := by decide +kernel
theorem dX12_readCell_52 : decode cX12_readCell 52 = .ok (.invokestatic 330, 3) := by decide +kernel
theorem dX12_readCell_55 : decode cX12_readCell 55 = .ok (.ifCond .eq 14, 3) := by decide +kernel
theorem dX12_readCell_58 : decode cX12_readCell 58 = .ok (.aload_n 0, 1) := by decide +kernel
theorem dX12_readCell_59 : decode cX12_readCell 59 = .ok (.iconst 3, 1) := by decide +kernel
theorem dX12_readCell_60 : decode cX12_readCell 60 = .ok (.putfield 188, 3) := by decide +kernel
theorem dX12_readCell_63 : decode cX12_readCell 63 = .ok (.aload_n 0, 1) := by decide +kernel
theorem dX12_readCell_64 : decode cX12_readCell 64 = .ok (.iload 4, 2) := by decide +kernel
theorem dX12_readCell_66 : decode cX12_readCell 66 = .ok (.putfield 13, 3) := by decide +kernel
theorem dX12_readCell_69 : decode cX12_readCell 69 = .ok (.iload 6, 2) := by decide +kernel
theorem dX12_readCell_71 : decode cX12_readCell 71 = .ok (.ireturn, 1) := by decide +kernel
theorem dX12_readWall_0 : decode cX12_readWall 0 = .ok (.aload_n 0, 1) := by decide +kernel
theorem dX12_readWall_1 : decode cX12_readWall 1 = .ok (.invokevirtual 244, 3) := by decide +kernel
theorem dX12_readWall_4 : decode cX12_readWall 4 = .ok (.iconst 1, 1) := by decide +kernel
theorem dX12_readWall_5 : decode cX12_readWall 5 = .ok (.istore_n 1, 1) := by decide +kernel
theorem dX12_readWall_6 : decode cX12_readWall 6 = .ok (.iload_n 1, 1) := by decide +kernel
theorem dX12_readWall_7 : decode cX12_readWall 7 = .ok (.ifCond .eq 85, 3) := by decide +kernel
theorem dX12_readWall_10 : decode cX12_readWall 10 = .ok (.aload_n 0, 1) := by decide +kernel
theorem dX12_readWall_11 : decode cX12_readWall 11 = .ok (.getfield 188, 3) := by decide +kernel
theorem dX12_readWall_14 : decode cX12_readWall 14 = .ok (.ifCond .ne 78, 3) := by decide +kernel
theorem dX12_readWall_17 : decode cX12_readWall 17 = .ok (.aload_n 0, 1) := by decide +kernel
theorem dX12_readWall_18 : decode cX12_readWall 18 = .ok (.getfield 334, 3) := by decide +kernel
theorem dX12_readWall_21 : decode cX12_readWall 21 = .ok (.bipush 24, 2) := by decide +kernel
theorem dX12_readWall_23 : decode cX12_readWall 23 = .ok (.if_icmp .ne 8, 3) := by decide +kernel
theorem dX12_readWall_26 : decode cX12_readWall 26 = .ok (.aload_n 0, 1) := by decide +kernel
theorem dX12_readWall_27 : decode cX12_readWall 27 = .ok (.iconst 2, 1) := by decide +kernel
theorem dX12_readWall_28 : decode cX12_readWall 28 = .ok (.invokevirtual 241, 3) := by decide +kernel
theorem dX12_readWall_31 : decode cX12_readWall 31 = .ok (.aload_n 0, 1) := by decide +kernel
theorem dX12_readWall_32 : decode cX12_readWall 32 = .ok (.aload_n 0, 1) := by decide +kernel
theorem dX12_readWall_33 : decode cX12_readWall 33 = .ok (.getfield 337, 3) := by decide +kernel
theorem dX12_readWall_36 : decode cX12_readWall 36 = .ok (.aload_n 0, 1) := by decide +kernel
theorem dX12_readWall_37 : decode cX12_readWall 37 = .ok (.getfield 340, 3) := by decide +kernel
theorem dX12_readWall_40 : decode cX12_readWall 40 = .ok (.lor, 1) := by decide +kernel
theorem dX12_readWall_41 : decode cX12_readWall 41 = .ok (.invokevirtual 343, 3) := by decide +kernel
theorem dX12_readWall_44 : decode cX12_readWall 44 = .ok (.istore_n 2, 1) := by decide +kernel
theorem dX12_readWall_45 : decode cX12_readWall 45 = .ok (.aload_n 0, 1) := by decide +kernel
theorem dX12_readWall_46 : decode cX12_readWall 46 = .ok (.getfield 188, 3) := by decide +kernel
theorem dX12_readWall_49 : decode cX12_readWall 49 = .ok (.ifCond .le 4, 3) := by decide +kernel
theorem dX12_readWall_52 : decode cX12_readWall 52 = .ok (.return_, 1) := by decide +kernel
theorem dX12_readWall_53 : decode cX12_readWall 53 = .ok (.aload_n 0, 1) := by decide +kernel
theorem dX12_readWall_54 : decode cX12_readWall 54 = .ok (.dup, 1) := by decide +kernel
theorem dX12_readWall_55 : decode cX12_readWall 55 = .ok (.getfield 337, 3) := by decide +kernel
theorem dX12_readWall_58 : decode cX12_readWall 58 = .ok (.lconst 1, 1) := by decide +kernel
theorem dX12_readWall_59 : decode cX12_readWall 59 = .ok (.iload_n 2, 1) := by decide +kernel
theorem dX12_readWall_60 : decode cX12_readWall 60 = .ok (.lshl, 1) := by decide +kernel
theorem dX12_readWall_61 : decode cX12_readWall 61 = .ok (.lor, 1) := by decide +kernel
theorem dX12_readWall_62 : decode cX12_readWall 62 = .ok (.putfield 337, 3) := by decide +kernel
theorem dX12_readWall_65 : decode cX12_readWall 65 = .ok (.aload_n 0, 1) := by decide +kernel
theorem dX12_readWall_66 : decode cX12_readWall 66 = .ok (.dup, 1) := by decide +kernel
theorem dX12_readWall_67 : decode cX12_readWall 67 = .ok (.getfield 334, 3) := by decide +kernel
theorem dX12_readWall_70 : decode cX12_readWall 70 = .ok (.iconst 1, 1) := by decide +kernel
theorem dX12_readWall_71 : decode cX12_readWall 71 = .ok (.iadd, 1) := by decide +kernel
theorem dX12_readWall_72 : decode cX12_readWall 72 = .ok (.putfield 334, 3) := by decide +kernel
theorem dX12_readWall_75 : decode cX12_readWall 75 = .ok (.aload_n 0, 1) := by decide +kernel
theorem dX12_readWall_76 : decode cX12_readWall 76 = .ok (.getfield 175, 3) := by decide +kernel
theorem dX12_readWall_79 : decode cX12_readWall 79 = .ok (.iconst 2, 1) := by decide +kernel
theorem dX12_readWall_80 : decode cX12_readWall 80 = .ok (.if_icmp .ne 7, 3) := by decide +kernel
theorem dX12_readWall_83 : decode cX12_readWall 83 = .ok (.iconst 1, 1) := by decide +kernel
theorem dX12_readWall_84 : decode cX12_readWall 84 = .ok (.goto 4, 3) := by decide +kernel
theorem dX12_readWall_87 : decode cX12_readWall 87 = .ok (.iconst 0, 1) := by decide +kernel
theorem dX12_readWall_88 : decode cX12_readWall 88 = .ok (.istore_n 1, 1) := by decide +kernel
theorem dX12_readWall_89 : decode cX12_readWall 89 = .ok (.goto (-83), 3) := by decide +kernel
theorem dX12_readWall_92 : decode cX12_readWall 92 = .ok (.return_, 1) := by decide +kernel
theorem dX12_readDoor_0 : decode cX12_readDoor 0 = .ok (.aload_n 0, 1) := by decide +kernel
theorem dX12_readDoor_1 : decode cX12_readDoor 1 = .ok (.iconst 0, 1) := by decide +kernel
theorem dX12_readDoor_2 : decode cX12_readDoor 2 = .ok (.aload_n 0, 1) := by decide +kernel
theorem dX12_readDoor_3 : decode cX12_readDoor 3 = .ok (.getfield 347, 3) := by decide +kernel
theorem dX12_readDoor_6 : decode cX12_readDoor 6 = .ok (.invokevirtual 350, 3) := by decide +kernel
theorem dX12_readDoor_9 : decode cX12_readDoor 9 = .ok (.aload_n 0, 1) := by decide +kernel
theorem dX12_readDoor_10 : decode cX12_readDoor 10 = .ok (.ldc2_w 203, 3) := by decide +kernel
theorem dX12_readDoor_13 : decode cX12_readDoor 13 = .ok (.invokevirtual 247, 3) := by decide +kernel
theorem dX12_readDoor_16 : decode cX12_readDoor 16 = .ok (.aload_n 0, 1) := by decide +kernel
theorem dX12_readDoor_17 : decode cX12_readDoor 17 = .ok (.getfield 347, 3) := by decide +kernel
theorem dX12_readDoor_20 : decode cX12_readDoor 20 = .ok (.istore_n 1, 1) := by decide +kernel
theorem dX12_readDoor_21 : decode cX12_readDoor 21 = .ok (.aload_n 0, 1) := by decide +kernel
theorem dX12_readDoor_22 : decode cX12_readDoor 22 = .ok (.getfield 42, 3) := by decide +kernel
theorem dX12_readDoor_25 : decode cX12_readDoor 25 = .ok (.iload_n 1, 1) := by decide +kernel
theorem dX12_readDoor_26 : decode cX12_readDoor 26 = .ok (.aload_n 0, 1) := by decide +kernel
theorem dX12_readDoor_27 : decode cX12_readDoor 27 = .ok (.aload_n 0, 1) := by decide +kernel
theorem dX12_readDoor_28 : decode cX12_readDoor 28 = .ok (.getfield 337, 3) := by decide +kernel
theorem dX12_readDoor_31 : decode cX12_readDoor 31 = .ok (.aload_n 0, 1) := by decide +kernel
theorem dX12_readDoor_32 : decode cX12_readDoor 32 = .ok (.getfield 353, 3) := by decide +kernel
theorem dX12_readDoor_35 : decode cX12_readDoor 35 = .ok (.lor, 1) := by decide +kernel
theorem dX12_readDoor_36 : decode cX12_readDoor 36 = .ok (.invokevirtual 343, 3) := by decide +kernel
theorem dX12_readDoor_39 : decode cX12_readDoor 39 = .ok (.iastore, 1) := by decide +kernel
theorem dX12_readDoor_40 : decode cX12_readDoor 40 = .ok (.aload_n 0, 1) := by decide +kernel
theorem dX12_readDoor_41 : decode cX12_readDoor 41 = .ok (.getfield 45, 3) := by decide +kernel
theorem dX12_readDoor_44 : decode cX12_readDoor 44 = .ok (.iload_n 1, 1) := by decide +kernel
theorem dX12_readDoor_45 : decode cX12_readDoor 45 = .ok (.aload_n 0, 1) := by decide +kernel
theorem dX12_readDoor_46 : decode cX12_readDoor 46 = .ok (.ldc2_w 205, 3) := by decide +kernel
theorem dX12_readDoor_49 : decode cX12_readDoor 49 = .ok (.iconst 1, 1) := by decide +kernel
theorem dX12_readDoor_50 : decode cX12_readDoor 50 = .ok (.bipush 9, 2) := by decide +kernel
theorem dX12_readDoor_52 : decode cX12_readDoor 52 = .ok (.invokevirtual 356, 3) := by decide +kernel
theorem dX12_readDoor_55 : decode cX12_readDoor 55 = .ok (.iastore, 1) := by decide +kernel
theorem dX12_readDoor_56 : decode cX12_readDoor 56 = .ok (.aload_n 0, 1) := by decide +kernel
theorem dX12_readDoor_57 : decode cX12_readDoor 57 = .ok (.getfield 48, 3) := by decide +kernel
theorem dX12_readDoor_60 : decode cX12_readDoor 60 = .ok (.iload_n 1, 1) := by decide +kernel
theorem dX12_readDoor_61 : decode cX12_readDoor 61 = .ok (.iconst 0, 1) := by decide +kernel
theorem dX12_readDoor_62 : decode cX12_readDoor 62 = .ok (.iastore, 1) := by decide +kernel
theorem dX12_readDoor_63 : decode cX12_readDoor 63 = .ok (.aload_n 0, 1) := by decide +kernel
theorem dX12_readDoor_64 : decode cX12_readDoor 64 = .ok (.getfield 51, 3) := by decide +kernel
theorem dX12_readDoor_67 : decode cX12_readDoor 67 = .ok (.iload_n 1, 1) := by decide +kernel
theorem dX12_readDoor_68 : decode cX12_readDoor 68 = .ok (.bipush 24, 2) := by decide +kernel
theorem dX12_readDoor_70 : decode cX12_readDoor 70 = .ok (.iastore, 1) := by decide +kernel
theorem dX12_readDoor_71 : decode cX12_readDoor 71 = .ok (.aload_n 0, 1) := by decide +kernel
theorem dX12_readDoor_72 : decode cX12_readDoor 72 = .ok (.getfield 188, 3) := by decide +kernel
theorem dX12_readDoor_75 : decode cX12_readDoor 75 = .ok (.ifCond .ne 52, 3) := by decide +kernel
theorem dX12_readDoor_78 : decode cX12_readDoor 78 = .ok (.aload_n 0, 1) := by decide +kernel
theorem dX12_readDoor_79 : decode cX12_readDoor 79 = .ok (.ldc2_w 207, 3) := by decide +kernel
theorem dX12_readDoor_82 : decode cX12_readDoor 82 = .ok (.invokevirtual 237, 3) := by decide +kernel
theorem dX12_readDoor_85 : decode cX12_readDoor 85 = .ok (.ifCond .eq 42, 3) := by decide +kernel
theorem dX12_readDoor_88 : decode cX12_readDoor 88 = .ok (.aload_n 0, 1) := by decide +kernel
theorem dX12_readDoor_89 : decode cX12_readDoor 89 = .ok (.getfield 48, 3) := by decide +kernel
theorem dX12_readDoor_92 : decode cX12_readDoor 92 = .ok (.iload_n 1, 1) := by decide +kernel
theorem dX12_readDoor_93 : decode cX12_readDoor 93 = .ok (.aload_n 0, 1) := by decide +kernel
theorem dX12_readDoor_94 : decode cX12_readDoor 94 = .ok (.ldc2_w 207, 3) := by decide +kernel
theorem dX12_readDoor_97 : decode cX12_readDoor 97 = .ok (.iconst 0, 1) := by decide +kernel
theorem dX12_readDoor_98 : decode cX12_readDoor 98 = .ok (.bipush 23, 2) := by decide +kernel
theorem dX12_readDoor_100 : decode cX12_readDoor 100 = .ok (.invokevirtual 356, 3) := by decide +kernel
theorem dX12_readDoor_103 : decode cX12_readDoor 103 = .ok (.iastore, 1) := by decide +kernel
theorem dX12_readDoor_104 : decode cX12_readDoor 104 = .ok (.aload_n 0, 1) := by decide +kernel
theorem dX12_readDoor_105 : decode cX12_readDoor 105 = .ok (.getfield 51, 3) := by decide +kernel
theorem dX12_readDoor_108 : decode cX12_readDoor 108 = .ok (.iload_n 1, 1) := by decide +kernel
theorem dX12_readDoor_109 : decode cX12_readDoor 109 = .ok (.aload_n 0, 1) := by decide +kernel
theorem dX12_readDoor_110 : decode cX12_readDoor 110 = .ok (.ldc2_w 209, 3) := by decide +kernel
theorem dX12_readDoor_113 : decode cX12_readDoor 113 = .ok (.aload_n 0, 1) := by decide +kernel
theorem dX12_readDoor_114 : decode cX12_readDoor 114 = .ok (.getfield 48, 3) := by decide +kernel
theorem dX12_readDoor_117 : decode cX12_readDoor 117 = .ok (.iload_n 1, 1) := by decide +kernel
theorem dX12_readDoor_118 : decode cX12_readDoor 118 = .ok (.iaload, 1) := by decide +kernel
theorem dX12_readDoor_119 : decode cX12_readDoor 119 = .ok (.iconst 1, 1) := by decide +kernel
theorem dX12_readDoor_120 : decode cX12_readDoor 120 = .ok (.iadd, 1) := by decide +kernel
theorem dX12_readDoor_121 : decode cX12_readDoor 121 = .ok (.bipush 24, 2) := by decide +kernel
theorem dX12_readDoor_123 : decode cX12_readDoor 123 = .ok (.invokevirtual 356, 3) := by decide +kernel
theorem dX12_readDoor_126 : decode cX12_readDoor 126 = .ok (.iastore, 1) := by decide +kernel
theorem dX12_readDoor_127 : decode cX12_readDoor 127 = .ok (.aload_n 0, 1) := by decide +kernel
theorem dX12_readDoor_128 : decode cX12_readDoor 128 = .ok (.getfield 188, 3) := by decide +kernel
theorem dX12_readDoor_131 : decode cX12_readDoor 131 = .ok (.ifCond .le 4, 3) := by decide +kernel
theorem dX12_readDoor_134 : decode cX12_readDoor 134 = .ok (.return_, 1) := by decide +kernel
theorem dX12_readDoor_135 : decode cX12_readDoor 135 = .ok (.aload_n 0, 1) := by decide +kernel
theorem dX12_readDoor_136 : decode cX12_readDoor 136 = .ok (.dup, 1) := by decide +kernel
theorem dX12_readDoor_137 : decode cX12_readDoor 137 = .ok (.getfield 353, 3) := by decide +kernel
theorem dX12_readDoor_140 : decode cX12_readDoor 140 = .ok (.lconst 1, 1) := by decide +kernel
theorem dX12_readDoor_141 : decode cX12_readDoor 141 = .ok (.aload_n 0, 1) := by decide +kernel
theorem dX12_readDoor_142 : decode cX12_readDoor 142 = .ok (.getfield 42, 3) := by decide +kernel
theorem dX12_readDoor_145 : decode cX12_readDoor 145 = .ok (.iload_n 1, 1) := by decide +kernel
theorem dX12_readDoor_146 : decode cX12_readDoor 146 = .ok (.iaload, 1) := by decide +kernel
theorem dX12_readDoor_147 : decode cX12_readDoor 147 = .ok (.lshl, 1) := by decide +kernel
theorem dX12_readDoor_148 : decode cX12_readDoor 148 = .ok (.lor, 1) := by decide +kernel
theorem dX12_readDoor_149 : decode cX12_readDoor 149 = .ok (.putfield 353, 3) := by decide +kernel
theorem dX12_readDoor_152 : decode cX12_readDoor 152 = .ok (.aload_n 0, 1) := by decide +kernel
theorem dX12_readDoor_153 : decode cX12_readDoor 153 = .ok (.dup, 1) := by decide +kernel
theorem dX12_readDoor_154 : decode cX12_readDoor 154 = .ok (.getfield 340, 3) := by decide +kernel
theorem dX12_readDoor_157 : decode cX12_readDoor 157 = .ok (.aload_n 0, 1) := by decide +kernel
theorem dX12_readDoor_158 : decode cX12_readDoor 158 = .ok (.getfield 353, 3) := by decide +kernel
theorem dX12_readDoor_161 : decode cX12_readDoor 161 = .ok (.lor, 1) := by decide +kernel
theorem dX12_readDoor_162 : decode cX12_readDoor 162 = .ok (.putfield 340, 3) := by decide +kernel
theorem dX12_readDoor_165 : decode cX12_readDoor 165 = .ok (.aload_n 0, 1) := by decide +kernel
theorem dX12_readDoor_166 : decode cX12_readDoor 166 = .ok (.dup, 1) := by decide +kernel
theorem dX12_readDoor_167 : decode cX12_readDoor 167 = .ok (.getfield 347, 3) := by decide +kernel
theorem dX12_readDoor_170 : decode cX12_readDoor 170 = .ok (.iconst 1, 1) := by decide +kernel
theorem dX12_readDoor_171 : decode cX12_readDoor 171 = .ok (.iadd, 1) := by decide +kernel
theorem dX12_readDoor_172 : decode cX12_readDoor 172 = .ok (.putfield 347, 3) := by decide +kernel
theorem dX12_readDoor_175 : decode cX12_readDoor 175 = .ok (.return_, 1) := by decide +kernel
theorem dX12_readLamp_0 : decode cX12_readLamp 0 = .ok (.aload_n 0, 1) := by decide +kernel
theorem dX12_readLamp_1 : decode cX12_readLamp 1 = .ok (.bipush 8, 2) := by decide +kernel
theorem dX12_readLamp_3 : decode cX12_readLamp 3 = .ok (.aload_n 0, 1) := by decide +kernel
theorem dX12_readLamp_4 : decode cX12_readLamp 4 = .ok (.getfield 360, 3) := by decide +kernel
theorem dX12_readLamp_7 : decode cX12_readLamp 7 = .ok (.invokevirtual 350, 3) := by decide +kernel
theorem dX12_readLamp_10 : decode cX12_readLamp 10 = .ok (.aload_n 0, 1) := by decide +kernel
theorem dX12_readLamp_11 : decode cX12_readLamp 11 = .ok (.ldc2_w 203, 3) := by decide +kernel
theorem dX12_readLamp_14 : decode cX12_readLamp 14 = .ok (.invokevirtual 247, 3) := by decide +kernel
theorem dX12_readLamp_17 : decode cX12_readLamp 17 = .ok (.aload_n 0, 1) := by decide +kernel
theorem dX12_readLamp_18 : decode cX12_readLamp 18 = .ok (.getfield 360, 3) := by decide +kernel
theorem dX12_readLamp_21 : decode cX12_readLamp 21 = .ok (.istore_n 1, 1) := by decide +kernel
theorem dX12_readLamp_22 : decode cX12_readLamp 22 = .ok (.aload_n 0, 1) := by decide +kernel
theorem dX12_readLamp_23 : decode cX12_readLamp 23 = .ok (.getfield 54, 3) := by decide +kernel
theorem dX12_readLamp_26 : decode cX12_readLamp 26 = .ok (.iload_n 1, 1) := by decide +kernel
theorem dX12_readLamp_27 : decode cX12_readLamp 27 = .ok (.aload_n 0, 1) := by decide +kernel
theorem dX12_readLamp_28 : decode cX12_readLamp 28 = .ok (.aload_n 0, 1) := by decide +kernel
theorem dX12_readLamp_29 : decode cX12_readLamp 29 = .ok (.getfield 337, 3) := by decide +kernel
theorem dX12_readLamp_32 : decode cX12_readLamp 32 = .ok (.invokevirtual 343, 3) := by decide +kernel
theorem dX12_readLamp_35 : decode cX12_readLamp 35 = .ok (.iastore, 1) := by decide +kernel
theorem dX12_readLamp_36 : decode cX12_readLamp 36 = .ok (.aload_n 0, 1) := by decide +kernel
theorem dX12_readLamp_37 : decode cX12_readLamp 37 = .ok (.getfield 57, 3) := by decide +kernel
theorem dX12_readLamp_40 : decode cX12_readLamp 40 = .ok (.iload_n 1, 1) := by decide +kernel
theorem dX12_readLamp_41 : decode cX12_readLamp 41 = .ok (.aload_n 0, 1) := by decide +kernel
theorem dX12_readLamp_42 : decode cX12_readLamp 42 = .ok (.ldc2_w 213, 3) := by decide +kernel
theorem dX12_readLamp_45 : decode cX12_readLamp 45 = .ok (.iconst 0, 1) := by decide +kernel
theorem dX12_readLamp_46 : decode cX12_readLamp 46 = .ok (.bipush 23, 2) := by decide +kernel
theorem dX12_readLamp_48 : decode cX12_readLamp 48 = .ok (.invokevirtual 356, 3) := by decide +kernel
theorem dX12_readLamp_51 : decode cX12_readLamp 51 = .ok (.iastore, 1) := by decide +kernel
theorem dX12_readLamp_52 : decode cX12_readLamp 52 = .ok (.aload_n 0, 1) := by decide +kernel
theorem dX12_readLamp_53 : decode cX12_readLamp 53 = .ok (.getfield 60, 3) := by decide +kernel
theorem dX12_readLamp_56 : decode cX12_readLamp 56 = .ok (.iload_n 1, 1) := by decide +kernel
theorem dX12_readLamp_57 : decode cX12_readLamp 57 = .ok (.aload_n 0, 1) := by decide +kernel
theorem dX12_readLamp_58 : decode cX12_readLamp 58 = .ok (.ldc2_w 209, 3) := by decide +kernel
theorem dX12_readLamp_61 : decode cX12_readLamp 61 = .ok (.aload_n 0, 1) := by decide +kernel
theorem dX12_readLamp_62 : decode cX12_readLamp 62 = .ok (.getfield 57, 3) := by decide +kernel
theorem dX12_readLamp_65 : decode cX12_readLamp 65 = .ok (.iload_n 1, 1) := by decide +kernel
theorem dX12_readLamp_66 : decode cX12_readLamp 66 = .ok (.iaload, 1) := by decide +kernel
theorem dX12_readLamp_67 : decode cX12_readLamp 67 = .ok (.iconst 1, 1) := by decide +kernel
theorem dX12_readLamp_68 : decode cX12_readLamp 68 = .ok (.iadd, 1) := by decide +kernel
theorem dX12_readLamp_69 : decode cX12_readLamp 69 = .ok (.bipush 24, 2) := by decide +kernel
theorem dX12_readLamp_71 : decode cX12_readLamp 71 = .ok (.invokevirtual 356, 3) := by decide +kernel
theorem dX12_readLamp_74 : decode cX12_readLamp 74 = .ok (.iastore, 1) := by decide +kernel
theorem dX12_readLamp_75 : decode cX12_readLamp 75 = .ok (.aload_n 0, 1) := by decide +kernel
theorem dX12_readLamp_76 : decode cX12_readLamp 76 = .ok (.getfield 188, 3) := by decide +kernel
theorem dX12_readLamp_79 : decode cX12_readLamp 79 = .ok (.ifCond .le 4, 3) := by decide +kernel
theorem dX12_readLamp_82 : decode cX12_readLamp 82 = .ok (.return_, 1) := by decide +kernel
theorem dX12_readLamp_83 : decode cX12_readLamp 83 = .ok (.aload_n 0, 1) := by decide +kernel
theorem dX12_readLamp_84 : decode cX12_readLamp 84 = .ok (.dup, 1) := by decide +kernel
theorem dX12_readLamp_85 : decode cX12_readLamp 85 = .ok (.getfield 340, 3) := by decide +kernel
theorem dX12_readLamp_88 : decode cX12_readLamp 88 = .ok (.lconst 1, 1) := by decide +kernel
theorem dX12_readLamp_89 : decode cX12_readLamp 89 = .ok (.aload_n 0, 1) := by decide +kernel
theorem dX12_readLamp_90 : decode cX12_readLamp 90 = .ok (.getfield 54, 3) := by decide +kernel
theorem dX12_readLamp_93 : decode cX12_readLamp 93 = .ok (.iload_n 1, 1) := by decide +kernel
theorem dX12_readLamp_94 : decode cX12_readLamp 94 = .ok (.iaload, 1) := by decide +kernel
theorem dX12_readLamp_95 : decode cX12_readLamp 95 = .ok (.lshl, 1) := by decide +kernel
theorem dX12_readLamp_96 : decode cX12_readLamp 96 = .ok (.lor, 1) := by decide +kernel
theorem dX12_readLamp_97 : decode cX12_readLamp 97 = .ok (.putfield 340, 3) := by decide +kernel
theorem dX12_readLamp_100 : decode cX12_readLamp 100 = .ok (.aload_n 0, 1) := by decide +kernel
theorem dX12_readLamp_101 : decode cX12_readLamp 101 = .ok (.dup, 1) := by decide +kernel
theorem dX12_readLamp_102 : decode cX12_readLamp 102 = .ok (.getfield 360, 3) := by decide +kernel
theorem dX12_readLamp_105 : decode cX12_readLamp 105 = .ok (.iconst 1, 1) := by decide +kernel
theorem dX12_readLamp_106 : decode cX12_readLamp 106 = .ok (.iadd, 1) := by decide +kernel
theorem dX12_readLamp_107 : decode cX12_readLamp 107 = .ok (.putfield 360, 3) := by decide +kernel
theorem dX12_readLamp_110 : decode cX12_readLamp 110 = .ok (.return_, 1) := by decide +kernel
theorem dX12_readPerson_0 : decode cX12_readPerson 0 = .ok (.aload_n 0, 1) := by decide +kernel
theorem dX12_readPerson_1 : decode cX12_readPerson 1 = .ok (.bipush 12, 2) := by decide +kernel
theorem dX12_readPerson_3 : decode cX12_readPerson 3 = .ok (.aload_n 0, 1) := by decide +kernel
theorem dX12_readPerson_4 : decode cX12_readPerson 4 = .ok (.getfield 363, 3) := by decide +kernel
theorem dX12_readPerson_7 : decode cX12_readPerson 7 = .ok (.invokevirtual 350, 3) := by decide +kernel
theorem dX12_readPerson_10 : decode cX12_readPerson 10 = .ok (.aload_n 0, 1) := by decide +kernel
theorem dX12_readPerson_11 : decode cX12_readPerson 11 = .ok (.ldc2_w 203, 3) := by decide +kernel
theorem dX12_readPerson_14 : decode cX12_readPerson 14 = .ok (.invokevirtual 247, 3) := by decide +kernel
theorem dX12_readPerson_17 : decode cX12_readPerson 17 = .ok (.aload_n 0, 1) := by decide +kernel
theorem dX12_readPerson_18 : decode cX12_readPerson 18 = .ok (.getfield 63, 3) := by decide +kernel
theorem dX12_readPerson_21 : decode cX12_readPerson 21 = .ok (.aload_n 0, 1) := by decide +kernel
theorem dX12_readPerson_22 : decode cX12_readPerson 22 = .ok (.getfield 363, 3) := by decide +kernel
theorem dX12_readPerson_25 : decode cX12_readPerson 25 = .ok (.aload_n 0, 1) := by decide +kernel
theorem dX12_readPerson_26 : decode cX12_readPerson 26 = .ok (.aload_n 0, 1) := by decide +kernel
theorem dX12_readPerson_27 : decode cX12_readPerson 27 = .ok (.getfield 337, 3) := by decide +kernel
theorem dX12_readPerson_30 : decode cX12_readPerson 30 = .ok (.invokevirtual 343, 3) := by decide +kernel
theorem dX12_readPerson_33 : decode cX12_readPerson 33 = .ok (.iastore, 1) := by decide +kernel
theorem dX12_readPerson_34 : decode cX12_readPerson 34 = .ok (.aload_n 0, 1) := by decide +kernel
theorem dX12_readPerson_35 : decode cX12_readPerson 35 = .ok (.getfield 188, 3) := by decide +kernel
theorem dX12_readPerson_38 : decode cX12_readPerson 38 = .ok (.ifCond .le 4, 3) := by decide +kernel
theorem dX12_readPerson_41 : decode cX12_readPerson 41 = .ok (.return_, 1) := by decide +kernel
theorem dX12_readPerson_42 : decode cX12_readPerson 42 = .ok (.aload_n 0, 1) := by decide +kernel
theorem dX12_readPerson_43 : decode cX12_readPerson 43 = .ok (.dup, 1) := by decide +kernel
theorem dX12_readPerson_44 : decode cX12_readPerson 44 = .ok (.getfield 340, 3) := by decide +kernel
theorem dX12_readPerson_47 : decode cX12_readPerson 47 = .ok (.lconst 1, 1) := by decide +kernel
theorem dX12_readPerson_48 : decode cX12_readPerson 48 = .ok (.aload_n 0, 1) := by decide +kernel
theorem dX12_readPerson_49 : decode cX12_readPerson 49 = .ok (.getfield 63, 3) := by decide +kernel
theorem dX12_readPerson_52 : decode cX12_readPerson 52 = .ok (.aload_n 0, 1) := by decide +kernel
theorem dX12_readPerson_53 : decode cX12_readPerson 53 = .ok (.getfield 363, 3) := by decide +kernel
theorem dX12_readPerson_56 : decode cX12_readPerson 56 = .ok (.iaload, 1) := by decide +kernel
theorem dX12_readPerson_57 : decode cX12_readPerson 57 = .ok (.lshl, 1) := by decide +kernel
theorem dX12_readPerson_58 : decode cX12_readPerson 58 = .ok (.lor, 1) := by decide +kernel
theorem dX12_readPerson_59 : decode cX12_readPerson 59 = .ok (.putfield 340, 3) := by decide +kernel
theorem dX12_readPerson_62 : decode cX12_readPerson 62 = .ok (.aload_n 0, 1) := by decide +kernel
theorem dX12_readPerson_63 : decode cX12_readPerson 63 = .ok (.dup, 1) := by decide +kernel
theorem dX12_readPerson_64 : decode cX12_readPerson 64 = .ok (.getfield 363, 3) := by decide +kernel
theorem dX12_readPerson_67 : decode cX12_readPerson 67 = .ok (.iconst 1, 1) := by decide +kernel
theorem dX12_readPerson_68 : decode cX12_readPerson 68 = .ok (.iadd, 1) := by decide +kernel
theorem dX12_readPerson_69 : decode cX12_readPerson 69 = .ok (.putfield 363, 3) := by decide +kernel
theorem dX12_readPerson_72 : decode cX12_readPerson 72 = .ok (.return_, 1) := by decide +kernel
theorem dX12_readLine_0 : decode cX12_readLine 0 = .ok (.aload_n 0, 1) := by decide +kernel
theorem dX12_readLine_1 : decode cX12_readLine 1 = .ok (.ldc2_w 195, 3) := by decide +kernel
theorem dX12_readLine_4 : decode cX12_readLine 4 = .ok (.invokevirtual 237, 3) := by decide +kernel
theorem dX12_readLine_7 : decode cX12_readLine 7 = .ok (.ifCond .eq 53, 3) := by decide +kernel
theorem dX12_readLine_10 : decode cX12_readLine 10 = .ok (.aload_n 0, 1) := by decide +kernel
theorem dX12_readLine_11 : decode cX12_readLine 11 = .ok (.getfield 366, 3) := by decide +kernel
theorem dX12_readLine_14 : decode cX12_readLine 14 = .ok (.ifCond .ne 46, 3) := by decide +kernel
theorem dX12_readLine_17 : decode cX12_readLine 17 = .ok (.aload_n 0, 1) := by decide +kernel
theorem dX12_readLine_18 : decode cX12_readLine 18 = .ok (.getfield 370, 3) := by decide +kernel
theorem dX12_readLine_21 : decode cX12_readLine 21 = .ok (.ifCond .ne 39, 3) := by decide +kernel
theorem dX12_readLine_24 : decode cX12_readLine 24 = .ok (.aload_n 0, 1) := by decide +kernel
theorem dX12_readLine_25 : decode cX12_readLine 25 = .ok (.iconst 1, 1) := by decide +kernel
theorem dX12_readLine_26 : decode cX12_readLine 26 = .ok (.putfield 366, 3) := by decide +kernel
theorem dX12_readLine_29 : decode cX12_readLine 29 = .ok (.aload_n 0, 1) := by decide +kernel
theorem dX12_readLine_30 : decode cX12_readLine 30 = .ok (.aload_n 0, 1) := by decide +kernel
theorem dX12_readLine_31 : decode cX12_readLine 31 = .ok (.ldc2_w 195, 3) := by decide +kernel
theorem dX12_readLine_34 : decode cX12_readLine 34 = .ok (.iconst 1, 1) := by decide +kernel
theorem dX12_readLine_35 : decode cX12_readLine 35 = .ok (.bipush 8, 2) := by decide +kernel
theorem dX12_readLine_37 : decode cX12_readLine 37 = .ok (.invokevirtual 356, 3) := by decide +kernel
theorem dX12_readLine_40 : decode cX12_readLine 40 = .ok (.putfield 324, 3) := by decide +kernel
theorem dX12_readLine_43 : decode cX12_readLine 43 = .ok (.aload_n 0, 1) := by decide +kernel
theorem dX12_readLine_44 : decode cX12_readLine 44 = .ok (.aload_n 0, 1) := by decide +kernel
theorem dX12_readLine_45 : decode cX12_readLine 45 = .ok (.ldc2_w 197, 3) := by decide +kernel
theorem dX12_readLine_48 : decode cX12_readLine 48 = .ok (.iconst 1, 1) := by decide +kernel
theorem dX12_readLine_49 : decode cX12_readLine 49 = .ok (.bipush 8, 2) := by decide +kernel
theorem dX12_readLine_51 : decode cX12_readLine 51 = .ok (.invokevirtual 356, 3) := by decide +kernel
theorem dX12_readLine_54 : decode cX12_readLine 54 = .ok (.putfield 327, 3) := by decide +kernel
theorem dX12_readLine_57 : decode cX12_readLine 57 = .ok (.goto 178, 3) := by decide +kernel
theorem dX12_readLine_60 : decode cX12_readLine 60 = .ok (.aload_n 0, 1) := by decide +kernel
theorem dX12_readLine_61 : decode cX12_readLine 61 = .ok (.ldc2_w 199, 3) := by decide +kernel
theorem dX12_readLine_64 : decode cX12_readLine 64 = .ok (.invokevirtual 237, 3) := by decide +kernel
theorem dX12_readLine_67 : decode cX12_readLine 67 = .ok (.ifCond .eq 19, 3) := by decide +kernel
theorem dX12_readLine_70 : decode cX12_readLine 70 = .ok (.aload_n 0, 1) := by decide +kernel
theorem dX12_readLine_71 : decode cX12_readLine 71 = .ok (.getfield 334, 3) := by decide +kernel
theorem dX12_readLine_74 : decode cX12_readLine 74 = .ok (.bipush 24, 2) := by decide +kernel
theorem dX12_readLine_76 : decode cX12_readLine 76 = .ok (.if_icmp .gt 10, 3) := by decide +kernel
theorem dX12_readLine_79 : decode cX12_readLine 79 = .ok (.aload_n 0, 1) := by decide +kernel
theorem dX12_readLine_80 : decode cX12_readLine 80 = .ok (.invokevirtual 373, 3) := by decide +kernel
theorem dX12_readLine_83 : decode cX12_readLine 83 = .ok (.goto 152, 3) := by decide +kernel
theorem dX12_readLine_86 : decode cX12_readLine 86 = .ok (.aload_n 0, 1) := by decide +kernel
theorem dX12_readLine_87 : decode cX12_readLine 87 = .ok (.ldc2_w 201, 3) := by decide +kernel
theorem dX12_readLine_90 : decode cX12_readLine 90 = .ok (.invokevirtual 237, 3) := by decide +kernel
theorem dX12_readLine_93 : decode cX12_readLine 93 = .ok (.ifCond .eq 19, 3) := by decide +kernel
theorem dX12_readLine_96 : decode cX12_readLine 96 = .ok (.aload_n 0, 1) := by decide +kernel
theorem dX12_readLine_97 : decode cX12_readLine 97 = .ok (.getfield 347, 3) := by decide +kernel
theorem dX12_readLine_100 : decode cX12_readLine 100 = .ok (.bipush 8, 2) := by decide +kernel
theorem dX12_readLine_102 : decode cX12_readLine 102 = .ok (.if_icmp .ge 10, 3) := by decide +kernel
theorem dX12_readLine_105 : decode cX12_readLine 105 = .ok (.aload_n 0, 1) := by decide +kernel
theorem dX12_readLine_106 : decode cX12_readLine 106 = .ok (.invokevirtual 376, 3) := by decide +kernel
theorem dX12_readLine_109 : decode cX12_readLine 109 = .ok (.goto 126, 3) := by decide +kernel
theorem dX12_readLine_112 : decode cX12_readLine 112 = .ok (.aload_n 0, 1) := by decide +kernel
theorem dX12_readLine_113 : decode cX12_readLine 113 = .ok (.ldc2_w 211, 3) := by decide +kernel
theorem dX12_readLine_116 : decode cX12_readLine 116 = .ok (.invokevirtual 237, 3) := by decide +kernel
theorem dX12_readLine_119 : decode cX12_readLine 119 = .ok (.ifCond .eq 18, 3) := by decide +kernel
theorem dX12_readLine_122 : decode cX12_readLine 122 = .ok (.aload_n 0, 1) := by decide +kernel
theorem dX12_readLine_123 : decode cX12_readLine 123 = .ok (.getfield 360, 3) := by decide +kernel
theorem dX12_readLine_126 : decode cX12_readLine 126 = .ok (.iconst 4, 1) := by decide +kernel
theorem dX12_readLine_127 : decode cX12_readLine 127 = .ok (.if_icmp .ge 10, 3) := by decide +kernel
theorem dX12_readLine_130 : decode cX12_readLine 130 = .ok (.aload_n 0, 1) := by decide +kernel
theorem dX12_readLine_131 : decode cX12_readLine 131 = .ok (.invokevirtual 379, 3) := by decide +kernel
theorem dX12_readLine_134 : decode cX12_readLine 134 = .ok (.goto 101, 3) := by decide +kernel
theorem dX12_readLine_137 : decode cX12_readLine 137 = .ok (.aload_n 0, 1) := by decide +kernel
theorem dX12_readLine_138 : decode cX12_readLine 138 = .ok (.ldc2_w 215, 3) := by decide +kernel
theorem dX12_readLine_141 : decode cX12_readLine 141 = .ok (.invokevirtual 237, 3) := by decide +kernel
theorem dX12_readLine_144 : decode cX12_readLine 144 = .ok (.ifCond .eq 18, 3) := by decide +kernel
theorem dX12_readLine_147 : decode cX12_readLine 147 = .ok (.aload_n 0, 1) := by decide +kernel
theorem dX12_readLine_148 : decode cX12_readLine 148 = .ok (.getfield 363, 3) := by decide +kernel
theorem dX12_readLine_151 : decode cX12_readLine 151 = .ok (.iconst 4, 1) := by decide +kernel
theorem dX12_readLine_152 : decode cX12_readLine 152 = .ok (.if_icmp .ge 10, 3) := by decide +kernel
theorem dX12_readLine_155 : decode cX12_readLine 155 = .ok (.aload_n 0, 1) := by decide +kernel
theorem dX12_readLine_156 : decode cX12_readLine 156 = .ok (.invokevirtual 382, 3) := by decide +kernel
theorem dX12_readLine_159 : decode cX12_readLine 159 = .ok (.goto 76, 3) := by decide +kernel
theorem dX12_readLine_162 : decode cX12_readLine 162 = .ok (.aload_n 0, 1) := by decide +kernel
theorem dX12_readLine_163 : decode cX12_readLine 163 = .ok (.ldc2_w 217, 3) := by decide +kernel
theorem dX12_readLine_166 : decode cX12_readLine 166 = .ok (.invokevirtual 237, 3) := by decide +kernel
theorem dX12_readLine_169 : decode cX12_readLine 169 = .ok (.ifCond .eq 22, 3) := by decide +kernel
theorem dX12_readLine_172 : decode cX12_readLine 172 = .ok (.aload_n 0, 1) := by decide +kernel
theorem dX12_readLine_173 : decode cX12_readLine 173 = .ok (.getfield 385, 3) := by decide +kernel
theorem dX12_readLine_176 : decode cX12_readLine 176 = .ok (.ifCond .ne 15, 3) := by decide +kernel
theorem dX12_readLine_179 : decode cX12_readLine 179 = .ok (.aload_n 0, 1) := by decide +kernel
theorem dX12_readLine_180 : decode cX12_readLine 180 = .ok (.iconst 1, 1) := by decide +kernel
theorem dX12_readLine_181 : decode cX12_readLine 181 = .ok (.putfield 385, 3) := by decide +kernel
theorem dX12_readLine_184 : decode cX12_readLine 184 = .ok (.aload_n 0, 1) := by decide +kernel
theorem dX12_readLine_185 : decode cX12_readLine 185 = .ok (.invokevirtual 388, 3) := by decide +kernel
theorem dX12_readLine_188 : decode cX12_readLine 188 = .ok (.goto 47, 3) := by decide +kernel
theorem dX12_readLine_191 : decode cX12_readLine 191 = .ok (.aload_n 0, 1) := by decide +kernel
theorem dX12_readLine_192 : decode cX12_readLine 192 = .ok (.ldc2_w 219, 3) := by decide +kernel
theorem dX12_readLine_195 : decode cX12_readLine 195 = .ok (.invokevirtual 237, 3) := by decide +kernel
theorem dX12_readLine_198 : decode cX12_readLine 198 = .ok (.ifCond .eq 32, 3) := by decide +kernel
theorem dX12_readLine_201 : decode cX12_readLine 201 = .ok (.aload_n 0, 1) := by decide +kernel
theorem dX12_readLine_202 : decode cX12_readLine 202 = .ok (.getfield 391, 3) := by decide +kernel
theorem dX12_readLine_205 : decode cX12_readLine 205 = .ok (.ifCond .ne 25, 3) := by decide +kernel
theorem dX12_readLine_208 : decode cX12_readLine 208 = .ok (.aload_n 0, 1) := by decide +kernel
theorem dX12_readLine_209 : decode cX12_readLine 209 = .ok (.iconst 1, 1) := by decide +kernel
theorem dX12_readLine_210 : decode cX12_readLine 210 = .ok (.putfield 391, 3) := by decide +kernel
theorem dX12_readLine_213 : decode cX12_readLine 213 = .ok (.aload_n 0, 1) := by decide +kernel
theorem dX12_readLine_214 : decode cX12_readLine 214 = .ok (.aload_n 0, 1) := by decide +kernel
theorem dX12_readLine_215 : decode cX12_readLine 215 = .ok (.ldc2_w 219, 3) := by decide +kernel
theorem dX12_readLine_218 : decode cX12_readLine 218 = .ok (.iconst 0, 1) := by decide +kernel
theorem dX12_readLine_219 : decode cX12_readLine 219 = .ok (.bipush 100, 2) := by decide +kernel
theorem dX12_readLine_221 : decode cX12_readLine 221 = .ok (.invokevirtual 356, 3) := by decide +kernel
theorem dX12_readLine_224 : decode cX12_readLine 224 = .ok (.putfield 394, 3) := by decide +kernel
theorem dX12_readLine_227 : decode cX12_readLine 227 = .ok (.goto 8, 3) := by decide +kernel
theorem dX12_readLine_230 : decode cX12_readLine 230 = .ok (.aload_n 0, 1) := by decide +kernel
theorem dX12_readLine_231 : decode cX12_readLine 231 = .ok (.iconst 2, 1) := by decide +kernel
theorem dX12_readLine_232 : decode cX12_readLine 232 = .ok (.invokevirtual 241, 3) := by decide +kernel
theorem dX12_readLine_235 : decode cX12_readLine 235 = .ok (.aload_n 0, 1) := by decide +kernel
theorem dX12_readLine_236 : decode cX12_readLine 236 = .ok (.iconst 1, 1) := by decide +kernel
theorem dX12_readLine_237 : decode cX12_readLine 237 = .ok (.putfield 370, 3) := by decide +kernel
theorem dX12_readLine_240 : decode cX12_readLine 240 = .ok (.aload_n 0, 1) := by decide +kernel
theorem dX12_readLine_241 : decode cX12_readLine 241 = .ok (.getfield 188, 3) := by decide +kernel
theorem dX12_readLine_244 : decode cX12_readLine 244 = .ok (.ifCond .ne 17, 3) := by decide +kernel
theorem dX12_readLine_247 : decode cX12_readLine 247 = .ok (.aload_n 0, 1) := by decide +kernel
theorem dX12_readLine_248 : decode cX12_readLine 248 = .ok (.getfield 175, 3) := by decide +kernel
theorem dX12_readLine_251 : decode cX12_readLine 251 = .ok (.bipush 59, 2) := by decide +kernel
theorem dX12_readLine_253 : decode cX12_readLine 253 = .ok (.if_icmp .eq 8, 3) := by decide +kernel
theorem dX12_readLine_256 : decode cX12_readLine 256 = .ok (.aload_n 0, 1) := by decide +kernel
theorem dX12_readLine_257 : decode cX12_readLine 257 = .ok (.iconst 2, 1) := by decide +kernel
theorem dX12_readLine_258 : decode cX12_readLine 258 = .ok (.invokevirtual 241, 3) := by decide +kernel
theorem dX12_readLine_261 : decode cX12_readLine 261 = .ok (.aload_n 0, 1) := by decide +kernel
theorem dX12_readLine_262 : decode cX12_readLine 262 = .ok (.getfield 188, 3) := by decide +kernel
theorem dX12_readLine_265 : decode cX12_readLine 265 = .ok (.ifCond .ne 7, 3) := by decide +kernel
theorem dX12_readLine_268 : decode cX12_readLine 268 = .ok (.aload_n 0, 1) := by decide +kernel
theorem dX12_readLine_269 : decode cX12_readLine 269 = .ok (.invokevirtual 244, 3) := by decide +kernel
theorem dX12_readLine_272 : decode cX12_readLine 272 = .ok (.return_, 1) := by decide +kernel
theorem dX12_readAll_0 : decode cX12_readAll 0 = .ok (.aload_n 0, 1) := by decide +kernel
theorem dX12_readAll_1 : decode cX12_readAll 1 = .ok (.aload_n 0, 1) := by decide +kernel
theorem dX12_readAll_2 : decode cX12_readAll 2 = .ok (.getfield 148, 3) := by decide +kernel
theorem dX12_readAll_5 : decode cX12_readAll 5 = .ok (.putfield 158, 3) := by decide +kernel
theorem dX12_readAll_8 : decode cX12_readAll 8 = .ok (.aload_n 0, 1) := by decide +kernel
theorem dX12_readAll_9 : decode cX12_readAll 9 = .ok (.iconst 0, 1) := by decide +kernel
theorem dX12_readAll_10 : decode cX12_readAll 10 = .ok (.putfield 148, 3) := by decide +kernel
theorem dX12_readAll_13 : decode cX12_readAll 13 = .ok (.aload_n 0, 1) := by decide +kernel
theorem dX12_readAll_14 : decode cX12_readAll 14 = .ok (.iconst 0, 1) := by decide +kernel
theorem dX12_readAll_15 : decode cX12_readAll 15 = .ok (.putfield 155, 3) := by decide +kernel
theorem dX12_readAll_18 : decode cX12_readAll 18 = .ok (.aload_n 0, 1) := by decide +kernel
theorem dX12_readAll_19 : decode cX12_readAll 19 = .ok (.iconst 0, 1) := by decide +kernel
theorem dX12_readAll_20 : decode cX12_readAll 20 = .ok (.putfield 188, 3) := by decide +kernel
theorem dX12_readAll_23 : decode cX12_readAll 23 = .ok (.aload_n 0, 1) := by decide +kernel
theorem dX12_readAll_24 : decode cX12_readAll 24 = .ok (.iconst (-1), 1) := by decide +kernel
theorem dX12_readAll_25 : decode cX12_readAll 25 = .ok (.putfield 13, 3) := by decide +kernel
theorem dX12_readAll_28 : decode cX12_readAll 28 = .ok (.aload_n 0, 1) := by decide +kernel
theorem dX12_readAll_29 : decode cX12_readAll 29 = .ok (.lconst 0, 1) := by decide +kernel
theorem dX12_readAll_30 : decode cX12_readAll 30 = .ok (.putfield 337, 3) := by decide +kernel
theorem dX12_readAll_33 : decode cX12_readAll 33 = .ok (.aload_n 0, 1) := by decide +kernel
theorem dX12_readAll_34 : decode cX12_readAll 34 = .ok (.lconst 0, 1) := by decide +kernel
theorem dX12_readAll_35 : decode cX12_readAll 35 = .ok (.putfield 340, 3) := by decide +kernel
theorem dX12_readAll_38 : decode cX12_readAll 38 = .ok (.aload_n 0, 1) := by decide +kernel
theorem dX12_readAll_39 : decode cX12_readAll 39 = .ok (.lconst 0, 1) := by decide +kernel
theorem dX12_readAll_40 : decode cX12_readAll 40 = .ok (.putfield 353, 3) := by decide +kernel
theorem dX12_readAll_43 : decode cX12_readAll 43 = .ok (.aload_n 0, 1) := by decide +kernel
theorem dX12_readAll_44 : decode cX12_readAll 44 = .ok (.bipush 6, 2) := by decide +kernel
theorem dX12_readAll_46 : decode cX12_readAll 46 = .ok (.putfield 324, 3) := by decide +kernel
theorem dX12_readAll_49 : decode cX12_readAll 49 = .ok (.aload_n 0, 1) := by decide +kernel
theorem dX12_readAll_50 : decode cX12_readAll 50 = .ok (.bipush 6, 2) := by decide +kernel
theorem dX12_readAll_52 : decode cX12_readAll 52 = .ok (.putfield 327, 3) := by decide +kernel
theorem dX12_readAll_55 : decode cX12_readAll 55 = .ok (.aload_n 0, 1) := by decide +kernel
theorem dX12_readAll_56 : decode cX12_readAll 56 = .ok (.iconst 0, 1) := by decide +kernel
theorem dX12_readAll_57 : decode cX12_readAll 57 = .ok (.putfield 334, 3) := by decide +kernel
theorem dX12_readAll_60 : decode cX12_readAll 60 = .ok (.aload_n 0, 1) := by decide +kernel
theorem dX12_readAll_61 : decode cX12_readAll 61 = .ok (.iconst 0, 1) := by decide +kernel
theorem dX12_readAll_62 : decode cX12_readAll 62 = .ok (.putfield 347, 3) := by decide +kernel
theorem dX12_readAll_65 : decode cX12_readAll 65 = .ok (.aload_n 0, 1) := by decide +kernel
theorem dX12_readAll_66 : decode cX12_readAll 66 = .ok (.iconst 0, 1) := by decide +kernel
theorem dX12_readAll_67 : decode cX12_readAll 67 = .ok (.putfield 360, 3) := by decide +kernel
theorem dX12_readAll_70 : decode cX12_readAll 70 = .ok (.aload_n 0, 1) := by decide +kernel
theorem dX12_readAll_71 : decode cX12_readAll 71 = .ok (.iconst 0, 1) := by decide +kernel
theorem dX12_readAll_72 : decode cX12_readAll 72 = .ok (.putfield 363, 3) := by decide +kernel
theorem dX12_readAll_75 : decode cX12_readAll 75 = .ok (.aload_n 0, 1) := by decide +kernel
theorem dX12_readAll_76 : decode cX12_readAll 76 = .ok (.iconst 0, 1) := by decide +kernel
theorem dX12_readAll_77 : decode cX12_readAll 77 = .ok (.putfield 394, 3) := by decide +kernel
theorem dX12_readAll_80 : decode cX12_readAll 80 = .ok (.aload_n 0, 1) := by decide +kernel
theorem dX12_readAll_81 : decode cX12_readAll 81 = .ok (.iconst 0, 1) := by decide +kernel
theorem dX12_readAll_82 : decode cX12_readAll 82 = .ok (.putfield 366, 3) := by decide +kernel
theorem dX12_readAll_85 : decode cX12_readAll 85 = .ok (.aload_n 0, 1) := by decide +kernel
theorem dX12_readAll_86 : decode cX12_readAll 86 = .ok (.iconst 0, 1) := by decide +kernel
theorem dX12_readAll_87 : decode cX12_readAll 87 = .ok (.putfield 370, 3) := by decide +kernel
theorem dX12_readAll_90 : decode cX12_readAll 90 = .ok (.aload_n 0, 1) := by decide +kernel
theorem dX12_readAll_91 : decode cX12_readAll 91 = .ok (.iconst 0, 1) := by decide +kernel
theorem dX12_readAll_92 : decode cX12_readAll 92 = .ok (.putfield 385, 3) := by decide +kernel
theorem dX12_readAll_95 : decode cX12_readAll 95 = .ok (.aload_n 0, 1) := by decide +kernel
theorem dX12_readAll_96 : decode cX12_readAll 96 = .ok (.iconst 0, 1) := by decide +kernel
theorem dX12_readAll_97 : decode cX12_readAll 97 = .ok (.putfield 391, 3) := by decide +kernel
theorem dX12_readAll_100 : decode cX12_readAll 100 = .ok (.aload_n 0, 1) := by decide +kernel
theorem dX12_readAll_101 : decode cX12_readAll 101 = .ok (.iconst 0, 1) := by decide +kernel
theorem dX12_readAll_102 : decode cX12_readAll 102 = .ok (.putfield 276, 3) := by decide +kernel
theorem dX12_readAll_105 : decode cX12_readAll 105 = .ok (.aload_n 0, 1) := by decide +kernel
theorem dX12_readAll_106 : decode cX12_readAll 106 = .ok (.iconst 0, 1) := by decide +kernel
theorem dX12_readAll_107 : decode cX12_readAll 107 = .ok (.putfield 261, 3) := by decide +kernel
theorem dX12_readAll_110 : decode cX12_readAll 110 = .ok (.aload_n 0, 1) := by decide +kernel
theorem dX12_readAll_111 : decode cX12_readAll 111 = .ok (.invokevirtual 244, 3) := by decide +kernel
theorem dX12_readAll_114 : decode cX12_readAll 114 = .ok (.aload_n 0, 1) := by decide +kernel
theorem dX12_readAll_115 : decode cX12_readAll 115 = .ok (.getfield 188, 3) := by decide +kernel
theorem dX12_readAll_118 : decode cX12_readAll 118 = .ok (.ifCond .ne 17, 3) := by decide +kernel
theorem dX12_readAll_121 : decode cX12_readAll 121 = .ok (.aload_n 0, 1) := by decide +kernel
theorem dX12_readAll_122 : decode cX12_readAll 122 = .ok (.getfield 175, 3) := by decide +kernel
theorem dX12_readAll_125 : decode cX12_readAll 125 = .ok (.ifCond .eq 10, 3) := by decide +kernel
theorem dX12_readAll_128 : decode cX12_readAll 128 = .ok (.aload_n 0, 1) := by decide +kernel
theorem dX12_readAll_129 : decode cX12_readAll 129 = .ok (.invokevirtual 397, 3) := by decide +kernel
theorem dX12_readAll_132 : decode cX12_readAll 132 = .ok (.goto (-18), 3) := by decide +kernel
theorem dX12_readAll_135 : decode cX12_readAll 135 = .ok (.return_, 1) := by decide +kernel
theorem dX12_quarter_0 : decode cX12_quarter 0 = .ok (.aload_n 0, 1) := by decide +kernel
theorem dX12_quarter_1 : decode cX12_quarter 1 = .ok (.invokevirtual 400, 3) := by decide +kernel
theorem dX12_quarter_4 : decode cX12_quarter 4 = .ok (.aload_n 0, 1) := by decide +kernel
theorem dX12_quarter_5 : decode cX12_quarter 5 = .ok (.getfield 188, 3) := by decide +kernel
theorem dX12_quarter_8 : decode cX12_quarter 8 = .ok (.ifCond .le 5, 3) := by decide +kernel
theorem dX12_quarter_11 : decode cX12_quarter 11 = .ok (.iconst (-1), 1) := by decide +kernel
theorem dX12_quarter_12 : decode cX12_quarter 12 = .ok (.ireturn, 1) := by decide +kernel
theorem dX12_quarter_13 : decode cX12_quarter 13 = .ok (.aload_n 0, 1) := by decide +kernel
theorem dX12_quarter_14 : decode cX12_quarter 14 = .ok (.aload_n 0, 1) := by decide +kernel
theorem dX12_quarter_15 : decode cX12_quarter 15 = .ok (.getfield 337, 3) := by decide +kernel
theorem dX12_quarter_18 : decode cX12_quarter 18 = .ok (.putfield 403, 3) := by decide +kernel
theorem dX12_quarter_21 : decode cX12_quarter 21 = .ok (.aload_n 0, 1) := by decide +kernel
theorem dX12_quarter_22 : decode cX12_quarter 22 = .ok (.aload_n 0, 1) := by decide +kernel
theorem dX12_quarter_23 : decode cX12_quarter 23 = .ok (.getfield 324, 3) := by decide +kernel
theorem dX12_quarter_26 : decode cX12_quarter 26 = .ok (.putfield 90, 3) := by decide +kernel
theorem dX12_quarter_29 : decode cX12_quarter 29 = .ok (.aload_n 0, 1) := by decide +kernel
theorem dX12_quarter_30 : decode cX12_quarter 30 = .ok (.aload_n 0, 1) := by decide +kernel
theorem dX12_quarter_31 : decode cX12_quarter 31 = .ok (.getfield 327, 3) := by decide +kernel
theorem dX12_quarter_34 : decode cX12_quarter 34 = .ok (.putfield 93, 3) := by decide +kernel
theorem dX12_quarter_37 : decode cX12_quarter 37 = .ok (.aload_n 0, 1) := by decide +kernel
theorem dX12_quarter_38 : decode cX12_quarter 38 = .ok (.aload_n 0, 1) := by decide +kernel
theorem dX12_quarter_39 : decode cX12_quarter 39 = .ok (.getfield 334, 3) := by decide +kernel
theorem dX12_quarter_42 : decode cX12_quarter 42 = .ok (.putfield 406, 3) := by decide +kernel
theorem dX12_quarter_45 : decode cX12_quarter 45 = .ok (.aload_n 0, 1) := by decide +kernel
theorem dX12_quarter_46 : decode cX12_quarter 46 = .ok (.aload_n 0, 1) := by decide +kernel
theorem dX12_quarter_47 : decode cX12_quarter 47 = .ok (.getfield 347, 3) := by decide +kernel
theorem dX12_quarter_50 : decode cX12_quarter 50 = .ok (.putfield 409, 3) := by decide +kernel
theorem dX12_quarter_53 : decode cX12_quarter 53 = .ok (.aload_n 0, 1) := by decide +kernel
theorem dX12_quarter_54 : decode cX12_quarter 54 = .ok (.aload_n 0, 1) := by decide +kernel
theorem dX12_quarter_55 : decode cX12_quarter 55 = .ok (.getfield 360, 3) := by decide +kernel
theorem dX12_quarter_58 : decode cX12_quarter 58 = .ok (.putfield 412, 3) := by decide +kernel
theorem dX12_quarter_61 : decode cX12_quarter 61 = .ok (.aload_n 0, 1) := by decide +kernel
theorem dX12_quarter_62 : decode cX12_quarter 62 = .ok (.aload_n 0, 1) := by decide +kernel
theorem dX12_quarter_63 : decode cX12_quarter 63 = .ok (.getfield 363, 3) := by decide +kernel
theorem dX12_quarter_66 : decode cX12_quarter 66 = .ok (.putfield 415, 3) := by decide +kernel
theorem dX12_quarter_69 : decode cX12_quarter 69 = .ok (.aload_n 0, 1) := by decide +kernel
theorem dX12_quarter_70 : decode cX12_quarter 70 = .ok (.aload_n 0, 1) := by decide +kernel
theorem dX12_quarter_71 : decode cX12_quarter 71 = .ok (.getfield 394, 3) := by decide +kernel
theorem dX12_quarter_74 : decode cX12_quarter 74 = .ok (.putfield 418, 3) := by decide +kernel
theorem dX12_quarter_77 : decode cX12_quarter 77 = .ok (.aload_n 0, 1) := by decide +kernel
theorem dX12_quarter_78 : decode cX12_quarter 78 = .ok (.aload_n 0, 1) := by decide +kernel
theorem dX12_quarter_79 : decode cX12_quarter 79 = .ok (.getfield 276, 3) := by decide +kernel
theorem dX12_quarter_82 : decode cX12_quarter 82 = .ok (.putfield 421, 3) := by decide +kernel
theorem dX12_quarter_85 : decode cX12_quarter 85 = .ok (.aload_n 0, 1) := by decide +kernel
theorem dX12_quarter_86 : decode cX12_quarter 86 = .ok (.aload_n 0, 1) := by decide +kernel
theorem dX12_quarter_87 : decode cX12_quarter 87 = .ok (.getfield 385, 3) := by decide +kernel
theorem dX12_quarter_90 : decode cX12_quarter 90 = .ok (.ifCond .eq 10, 3) := by decide +kernel
theorem dX12_quarter_93 : decode cX12_quarter 93 = .ok (.aload_n 0, 1) := by decide +kernel
theorem dX12_quarter_94 : decode cX12_quarter 94 = .ok (.getfield 261, 3) := by decide +kernel
theorem dX12_quarter_97 : decode cX12_quarter 97 = .ok (.goto 4, 3) := by decide +kernel
theorem dX12_quarter_100 : decode cX12_quarter 100 = .ok (.iconst 0, 1) := by decide +kernel
theorem dX12_quarter_101 : decode cX12_quarter 101 = .ok (.putfield 317, 3) := by decide +kernel
theorem dX12_quarter_104 : decode cX12_quarter 104 = .ok (.iconst 0, 1) := by decide +kernel
theorem dX12_quarter_105 : decode cX12_quarter 105 = .ok (.istore_n 1, 1) := by decide +kernel
theorem dX12_quarter_106 : decode cX12_quarter 106 = .ok (.iload_n 1, 1) := by decide +kernel
theorem dX12_quarter_107 : decode cX12_quarter 107 = .ok (.aload_n 0, 1) := by decide +kernel
theorem dX12_quarter_108 : decode cX12_quarter 108 = .ok (.getfield 317, 3) := by decide +kernel
theorem dX12_quarter_111 : decode cX12_quarter 111 = .ok (.if_icmp .ge 33, 3) := by decide +kernel
theorem dX12_quarter_114 : decode cX12_quarter 114 = .ok (.aload_n 0, 1) := by decide +kernel
theorem dX12_quarter_115 : decode cX12_quarter 115 = .ok (.getfield 27, 3) := by decide +kernel
theorem dX12_quarter_118 : decode cX12_quarter 118 = .ok (.iload_n 1, 1) := by decide +kernel
theorem dX12_quarter_119 : decode cX12_quarter 119 = .ok (.aload_n 0, 1) := by decide +kernel
theorem dX12_quarter_120 : decode cX12_quarter 120 = .ok (.getfield 21, 3) := by decide +kernel
theorem dX12_quarter_123 : decode cX12_quarter 123 = .ok (.iload_n 1, 1) := by decide +kernel
theorem dX12_quarter_124 : decode cX12_quarter 124 = .ok (.iaload, 1) := by decide +kernel
theorem dX12_quarter_125 : decode cX12_quarter 125 = .ok (.iastore, 1) := by decide +kernel
theorem dX12_quarter_126 : decode cX12_quarter 126 = .ok (.aload_n 0, 1) := by decide +kernel
theorem dX12_quarter_127 : decode cX12_quarter 127 = .ok (.getfield 30, 3) := by decide +kernel
theorem dX12_quarter_130 : decode cX12_quarter 130 = .ok (.iload_n 1, 1) := by decide +kernel
theorem dX12_quarter_131 : decode cX12_quarter 131 = .ok (.aload_n 0, 1) := by decide +kernel
theorem dX12_quarter_132 : decode cX12_quarter 132 = .ok (.getfield 24, 3) := by decide +kernel
theorem dX12_quarter_135 : decode cX12_quarter 135 = .ok (.iload_n 1, 1) := by decide +kernel
theorem dX12_quarter_136 : decode cX12_quarter 136 = .ok (.iaload, 1) := by decide +kernel
theorem dX12_quarter_137 : decode cX12_quarter 137 = .ok (.iastore, 1) := by decide +kernel
theorem dX12_quarter_138 : decode cX12_quarter 138 = .ok (.iinc 1 1, 3) := by decide +kernel
theorem dX12_quarter_141 : decode cX12_quarter 141 = .ok (.goto (-35), 3) := by decide +kernel
theorem dX12_quarter_144 : decode cX12_quarter 144 = .ok (.iconst 0, 1) := by decide +kernel
theorem dX12_quarter_145 : decode cX12_quarter 145 = .ok (.istore_n 1, 1) := by decide +kernel
theorem dX12_quarter_146 : decode cX12_quarter 146 = .ok (.iload_n 1, 1) := by decide +kernel
theorem dX12_quarter_147 : decode cX12_quarter 147 = .ok (.bipush 8, 2) := by decide +kernel
theorem dX12_quarter_149 : decode cX12_quarter 149 = .ok (.if_icmp .ge 57, 3) := by decide +kernel
theorem dX12_quarter_152 : decode cX12_quarter 152 = .ok (.aload_n 0, 1) := by decide +kernel
theorem dX12_quarter_153 : decode cX12_quarter 153 = .ok (.getfield 66, 3) := by decide +kernel
theorem dX12_quarter_156 : decode cX12_quarter 156 = .ok (.iload_n 1, 1) := by decide +kernel
theorem dX12_quarter_157 : decode cX12_quarter 157 = .ok (.aload_n 0, 1) := by decide +kernel
theorem dX12_quarter_158 : decode cX12_quarter 158 = .ok (.getfield 42, 3) := by decide +kernel
theorem dX12_quarter_161 : decode cX12_quarter 161 = .ok (.iload_n 1, 1) := by decide +kernel
theorem dX12_quarter_162 : decode cX12_quarter 162 = .ok (.iaload, 1) := by decide +kernel
theorem dX12_quarter_163 : decode cX12_quarter 163 = .ok (.iastore, 1) := by decide +kernel
theorem dX12_quarter_164 : decode cX12_quarter 164 = .ok (.aload_n 0, 1) := by decide +kernel
theorem dX12_quarter_165 : decode cX12_quarter 165 = .ok (.getfield 69, 3) := by decide +kernel
theorem dX12_quarter_168 : decode cX12_quarter 168 = .ok (.iload_n 1, 1) := by decide +kernel
theorem dX12_quarter_169 : decode cX12_quarter 169 = .ok (.aload_n 0, 1) := by decide +kernel
theorem dX12_quarter_170 : decode cX12_quarter 170 = .ok (.getfield 45, 3) := by decide +kernel
theorem dX12_quarter_173 : decode cX12_quarter 173 = .ok (.iload_n 1, 1) := by decide +kernel
theorem dX12_quarter_174 : decode cX12_quarter 174 = .ok (.iaload, 1) := by decide +kernel
theorem dX12_quarter_175 : decode cX12_quarter 175 = .ok (.iastore, 1) := by decide +kernel
theorem dX12_quarter_176 : decode cX12_quarter 176 = .ok (.aload_n 0, 1) := by decide +kernel
theorem dX12_quarter_177 : decode cX12_quarter 177 = .ok (.getfield 72, 3) := by decide +kernel
theorem dX12_quarter_180 : decode cX12_quarter 180 = .ok (.iload_n 1, 1) := by decide +kernel
theorem dX12_quarter_181 : decode cX12_quarter 181 = .ok (.aload_n 0, 1) := by decide +kernel
theorem dX12_quarter_182 : decode cX12_quarter 182 = .ok (.getfield 48, 3) := by decide +kernel
theorem dX12_quarter_185 : decode cX12_quarter 185 = .ok (.iload_n 1, 1) := by decide +kernel
theorem dX12_quarter_186 : decode cX12_quarter 186 = .ok (.iaload, 1) := by decide +kernel
theorem dX12_quarter_187 : decode cX12_quarter 187 = .ok (.iastore, 1) := by decide +kernel
theorem dX12_quarter_188 : decode cX12_quarter 188 = .ok (.aload_n 0, 1) := by decide +kernel
theorem dX12_quarter_189 : decode cX12_quarter 189 = .ok (.getfield 75, 3) := by decide +kernel
theorem dX12_quarter_192 : decode cX12_quarter 192 = .ok (.iload_n 1, 1) := by decide +kernel
theorem dX12_quarter_193 : decode cX12_quarter 193 = .ok (.aload_n 0, 1) := by decide +kernel
theorem dX12_quarter_194 : decode cX12_quarter 194 = .ok (.getfield 51, 3) := by decide +kernel
theorem dX12_quarter_197 : decode cX12_quarter 197 = .ok (.iload_n 1, 1) := by decide +kernel
theorem dX12_quarter_198 : decode cX12_quarter 198 = .ok (.iaload, 1) := by decide +kernel
theorem dX12_quarter_199 : decode cX12_quarter 199 = .ok (.iastore, 1) := by decide +kernel
theorem dX12_quarter_200 : decode cX12_quarter 200 = .ok (.iinc 1 1, 3) := by decide +kernel
theorem dX12_quarter_203 : decode cX12_quarter 203 = .ok (.goto (-57), 3) := by decide +kernel
theorem dX12_quarter_206 : decode cX12_quarter 206 = .ok (.iconst 0, 1) := by decide +kernel
theorem dX12_quarter_207 : decode cX12_quarter 207 = .ok (.istore_n 1, 1) := by decide +kernel
theorem dX12_quarter_208 : decode cX12_quarter 208 = .ok (.iload_n 1, 1) := by decide +kernel
theorem dX12_quarter_209 : decode cX12_quarter 209 = .ok (.iconst 4, 1) := by decide +kernel
theorem dX12_quarter_210 : decode cX12_quarter 210 = .ok (.if_icmp .ge 57, 3) := by decide +kernel
theorem dX12_quarter_213 : decode cX12_quarter 213 = .ok (.aload_n 0, 1) := by decide +kernel
theorem dX12_quarter_214 : decode cX12_quarter 214 = .ok (.getfield 78, 3) := by decide +kernel
theorem dX12_quarter_217 : decode cX12_quarter 217 = .ok (.iload_n 1, 1) := by decide +kernel
theorem dX12_quarter_218 : decode cX12_quarter 218 = .ok (.aload_n 0, 1) := by decide +kernel
theorem dX12_quarter_219 : decode cX12_quarter 219 = .ok (.getfield 54, 3) := by decide +kernel
theorem dX12_quarter_222 : decode cX12_quarter 222 = .ok (.iload_n 1, 1) := by decide +kernel
theorem dX12_quarter_223 : decode cX12_quarter 223 = .ok (.iaload, 1) := by decide +kernel
theorem dX12_quarter_224 : decode cX12_quarter 224 = .ok (.iastore, 1) := by decide +kernel
theorem dX12_quarter_225 : decode cX12_quarter 225 = .ok (.aload_n 0, 1) := by decide +kernel
theorem dX12_quarter_226 : decode cX12_quarter 226 = .ok (.getfield 81, 3) := by decide +kernel
theorem dX12_quarter_229 : decode cX12_quarter 229 = .ok (.iload_n 1, 1) := by decide +kernel
theorem dX12_quarter_230 : decode cX12_quarter 230 = .ok (.aload_n 0, 1) := by decide +kernel
theorem dX12_quarter_231 : decode cX12_quarter 231 = .ok (.getfield 57, 3) := by decide +kernel
theorem dX12_quarter_234 : decode cX12_quarter 234 = .ok (.iload_n 1, 1) := by decide +kernel
theorem dX12_quarter_235 : decode cX12_quarter 235 = .ok (.iaload, 1) := by decide +kernel
theorem dX12_quarter_236 : decode cX12_quarter 236 = .ok (.iastore, 1) := by decide +kernel
theorem dX12_quarter_237 : decode cX12_quarter 237 = .ok (.aload_n 0, 1) := by decide +kernel
theorem dX12_quarter_238 : decode cX12_quarter 238 = .ok (.getfield 84, 3) := by decide +kernel
theorem dX12_quarter_241 : decode cX12_quarter 241 = .ok (.iload_n 1, 1) := by decide +kernel
theorem dX12_quarter_242 : decode cX12_quarter 242 = .ok (.aload_n 0, 1) := by decide +kernel
theorem dX12_quarter_243 : decode cX12_quarter 243 = .ok (.getfield 60, 3) := by decide +kernel
theorem dX12_quarter_246 : decode cX12_quarter 246 = .ok (.iload_n 1, 1) := by decide +kernel
theorem dX12_quarter_247 : decode cX12_quarter 247 = .ok (.iaload, 1) := by decide +kernel
theorem dX12_quarter_248 : decode cX12_quarter 248 = .ok (.iastore, 1) := by decide +kernel
theorem dX12_quarter_249 : decode cX12_quarter 249 = .ok (.aload_n 0, 1) := by decide +kernel
theorem dX12_quarter_250 : decode cX12_quarter 250 = .ok (.getfield 87, 3) := by decide +kernel
theorem dX12_quarter_253 : decode cX12_quarter 253 = .ok (.iload_n 1, 1) := by decide +kernel
theorem dX12_quarter_254 : decode cX12_quarter 254 = .ok (.aload_n 0, 1) := by decide +kernel
theorem dX12_quarter_255 : decode cX12_quarter 255 = .ok (.getfield 63, 3) := by decide +kernel
theorem dX12_quarter_258 : decode cX12_quarter 258 = .ok (.iload_n 1, 1) := by decide +kernel
theorem dX12_quarter_259 : decode cX12_quarter 259 = .ok (.iaload, 1) := by decide +kernel
theorem dX12_quarter_260 : decode cX12_quarter 260 = .ok (.iastore, 1) := by decide +kernel
theorem dX12_quarter_261 : decode cX12_quarter 261 = .ok (.iinc 1 1, 3) := by decide +kernel
theorem dX12_quarter_264 : decode cX12_quarter 264 = .ok (.goto (-56), 3) := by decide +kernel
theorem dX12_quarter_267 : decode cX12_quarter 267 = .ok (.iconst 0, 1) := by decide +kernel
theorem dX12_quarter_268 : decode cX12_quarter 268 = .ok (.istore_n 1, 1) := by decide +kernel
theorem dX12_quarter_269 : decode cX12_quarter 269 = .ok (.iload_n 1, 1) := by decide +kernel
theorem dX12_quarter_270 : decode cX12_quarter 270 = .ok (.bipush 9, 2) := by decide +kernel
theorem dX12_quarter_272 : decode cX12_quarter 272 = .ok (.if_icmp .ge 16, 3) := by decide +kernel
theorem dX12_quarter_275 : decode cX12_quarter 275 = .ok (.aload_n 0, 1) := by decide +kernel
theorem dX12_quarter_276 : decode cX12_quarter 276 = .ok (.getfield 96, 3) := by decide +kernel
theorem dX12_quarter_279 : decode cX12_quarter 279 = .ok (.iload_n 1, 1) := by decide +kernel
theorem dX12_quarter_280 : decode cX12_quarter 280 = .ok (.iconst 0, 1) := by decide +kernel
theorem dX12_quarter_281 : decode cX12_quarter 281 = .ok (.iastore, 1) := by decide +kernel
theorem dX12_quarter_282 : decode cX12_quarter 282 = .ok (.iinc 1 1, 3) := by decide +kernel
theorem dX12_quarter_285 : decode cX12_quarter 285 = .ok (.goto (-16), 3) := by decide +kernel
theorem dX12_quarter_288 : decode cX12_quarter 288 = .ok (.iconst 0, 1) := by decide +kernel
theorem dX12_quarter_289 : decode cX12_quarter 289 = .ok (.istore_n 1, 1) := by decide +kernel
theorem dX12_quarter_290 : decode cX12_quarter 290 = .ok (.iload_n 1, 1) := by decide +kernel
theorem dX12_quarter_291 : decode cX12_quarter 291 = .ok (.aload_n 0, 1) := by decide +kernel
theorem dX12_quarter_292 : decode cX12_quarter 292 = .ok (.getfield 415, 3) := by decide +kernel
theorem dX12_quarter_295 : decode cX12_quarter 295 = .ok (.if_icmp .ge 21, 3) := by decide +kernel
theorem dX12_quarter_298 : decode cX12_quarter 298 = .ok (.aload_n 0, 1) := by decide +kernel
theorem dX12_quarter_299 : decode cX12_quarter 299 = .ok (.getfield 96, 3) := by decide +kernel
theorem dX12_quarter_302 : decode cX12_quarter 302 = .ok (.iload_n 1, 1) := by decide +kernel
theorem dX12_quarter_303 : decode cX12_quarter 303 = .ok (.aload_n 0, 1) := by decide +kernel
theorem dX12_quarter_304 : decode cX12_quarter 304 = .ok (.getfield 87, 3) := by decide +kernel
theorem dX12_quarter_307 : decode cX12_quarter 307 = .ok (.iload_n 1, 1) := by decide +kernel
theorem dX12_quarter_308 : decode cX12_quarter 308 = .ok (.iaload, 1) := by decide +kernel
theorem dX12_quarter_309 : decode cX12_quarter 309 = .ok (.iastore, 1) := by decide +kernel
theorem dX12_quarter_310 : decode cX12_quarter 310 = .ok (.iinc 1 1, 3) := by decide +kernel
theorem dX12_quarter_313 : decode cX12_quarter 313 = .ok (.goto (-23), 3) := by decide +kernel
theorem dX12_quarter_316 : decode cX12_quarter 316 = .ok (.aload_n 0, 1) := by decide +kernel
theorem dX12_quarter_317 : decode cX12_quarter 317 = .ok (.iconst 0, 1) := by decide +kernel
theorem dX12_quarter_318 : decode cX12_quarter 318 = .ok (.putfield 424, 3) := by decide +kernel
theorem dX12_quarter_321 : decode cX12_quarter 321 = .ok (.aload_n 0, 1) := by decide +kernel
theorem dX12_quarter_322 : decode cX12_quarter 322 = .ok (.iconst 0, 1) := by decide +kernel
theorem dX12_quarter_323 : decode cX12_quarter 323 = .ok (.putfield 427, 3) := by decide +kernel
theorem dX12_quarter_326 : decode cX12_quarter 326 = .ok (.aload_n 0, 1) := by decide +kernel
theorem dX12_quarter_327 : decode cX12_quarter 327 = .ok (.iconst 0, 1) := by decide +kernel
theorem dX12_quarter_328 : decode cX12_quarter 328 = .ok (.putfield 430, 3) := by decide +kernel
theorem dX12_quarter_331 : decode cX12_quarter 331 = .ok (.aload_n 0, 1) := by decide +kernel
theorem dX12_quarter_332 : decode cX12_quarter 332 = .ok (.iconst 0, 1) := by decide +kernel
theorem dX12_quarter_333 : decode cX12_quarter 333 = .ok (.putfield 433, 3) := by decide +kernel
theorem dX12_quarter_336 : decode cX12_quarter 336 = .ok (.iconst 0, 1) := by decide +kernel
theorem dX12_quarter_337 : decode cX12_quarter 337 = .ok (.istore_n 1, 1) := by decide +kernel
theorem dX12_quarter_338 : decode cX12_quarter 338 = .ok (.iload_n 1, 1) := by decide +kernel
theorem dX12_quarter_339 : decode cX12_quarter 339 = .ok (.iconst 3, 1) := by decide +kernel
theorem dX12_quarter_340 : decode cX12_quarter 340 = .ok (.if_icmp .ge 16, 3) := by decide +kernel
theorem dX12_quarter_343 : decode cX12_quarter 343 = .ok (.aload_n 0, 1) := by decide +kernel
theorem dX12_quarter_344 : decode cX12_quarter 344 = .ok (.getfield 142, 3) := by decide +kernel
theorem dX12_quarter_347 : decode cX12_quarter 347 = .ok (.iload_n 1, 1) := by decide +kernel
theorem dX12_quarter_348 : decode cX12_quarter 348 = .ok (.iconst 0, 1) := by decide +kernel
theorem dX12_quarter_349 : decode cX12_quarter 349 = .ok (.bastore, 1) := by decide +kernel
theorem dX12_quarter_350 : decode cX12_quarter 350 = .ok (.iinc 1 1, 3) := by decide +kernel
theorem dX12_quarter_353 : decode cX12_quarter 353 = .ok (.goto (-15), 3) := by decide +kernel
theorem dX12_quarter_356 : decode cX12_quarter 356 = .ok (.aload_n 0, 1) := by decide +kernel
theorem dX12_quarter_357 : decode cX12_quarter 357 = .ok (.getfield 409, 3) := by decide +kernel
theorem dX12_quarter_360 : decode cX12_quarter 360 = .ok (.ireturn, 1) := by decide +kernel
theorem dX12_fault_0 : decode cX12_fault 0 = .ok (.iload_n 1, 1) := by decide +kernel
theorem dX12_fault_1 : decode cX12_fault 1 = .ok (.ifCond .ne 10, 3) := by decide +kernel
theorem dX12_fault_4 : decode cX12_fault 4 = .ok (.aload_n 0, 1) := by decide +kernel
theorem dX12_fault_5 : decode cX12_fault 5 = .ok (.getfield 188, 3) := by decide +kernel
theorem dX12_fault_8 : decode cX12_fault 8 = .ok (.goto 16, 3) := by decide +kernel
theorem dX12_fault_11 : decode cX12_fault 11 = .ok (.iload_n 1, 1) := by decide +kernel
theorem dX12_fault_12 : decode cX12_fault 12 = .ok (.iconst 1, 1) := by decide +kernel
theorem dX12_fault_13 : decode cX12_fault 13 = .ok (.if_icmp .ne 10, 3) := by decide +kernel
theorem dX12_fault_16 : decode cX12_fault 16 = .ok (.aload_n 0, 1) := by decide +kernel
theorem dX12_fault_17 : decode cX12_fault 17 = .ok (.getfield 13, 3) := by decide +kernel
theorem dX12_fault_20 : decode cX12_fault 20 = .ok (.goto 4, 3) := by decide +kernel
theorem dX12_fault_23 : decode cX12_fault 23 = .ok (.iconst (-1), 1) := by decide +kernel
theorem dX12_fault_24 : decode cX12_fault 24 = .ok (.ireturn, 1) := by decide +kernel
theorem dX12_isIn_0 : decode cX12_isIn 0 = .ok (.iload_n 0, 1) := by decide +kernel
theorem dX12_isIn_1 : decode cX12_isIn 1 = .ok (.iload_n 1, 1) := by decide +kernel
theorem dX12_isIn_2 : decode cX12_isIn 2 = .ok (.if_icmp .lt 12, 3) := by decide +kernel
theorem dX12_isIn_5 : decode cX12_isIn 5 = .ok (.iload_n 0, 1) := by decide +kernel
theorem dX12_isIn_6 : decode cX12_isIn 6 = .ok (.iload_n 2, 1) := by decide +kernel
theorem dX12_isIn_7 : decode cX12_isIn 7 = .ok (.if_icmp .gt 7, 3) := by decide +kernel
theorem dX12_isIn_10 : decode cX12_isIn 10 = .ok (.iconst 1, 1) := by decide +kernel
theorem dX12_isIn_11 : decode cX12_isIn 11 = .ok (.goto 4, 3) := by decide +kernel
theorem dX12_isIn_14 : decode cX12_isIn 14 = .ok (.iconst 0, 1) := by decide +kernel
theorem dX12_isIn_15 : decode cX12_isIn 15 = .ok (.ireturn, 1) := by decide +kernel
theorem dX12_isDoor_0 : decode cX12_isDoor 0 = .ok (.iload_n 1, 1) := by decide +kernel
theorem dX12_isDoor_1 : decode cX12_isDoor 1 = .ok (.iconst 0, 1) := by decide +kernel
theorem dX12_isDoor_2 : decode cX12_isDoor 2 = .ok (.aload_n 0, 1) := by decide +kernel
theorem dX12_isDoor_3 : decode cX12_isDoor 3 = .ok (.getfield 409, 3) := by decide +kernel
theorem dX12_isDoor_6 : decode cX12_isDoor 6 = .ok (.iconst 1, 1) := by decide +kernel
theorem dX12_isDoor_7 : decode cX12_isDoor 7 = .ok (.isub, 1) := by decide +kernel
theorem dX12_isDoor_8 : decode cX12_isDoor 8 = .ok (.invokestatic 436, 3) := by decide +kernel
theorem dX12_isDoor_11 : decode cX12_isDoor 11 = .ok (.ireturn, 1) := by decide +kernel
theorem dX12_isLamp_0 : decode cX12_isLamp 0 = .ok (.iload_n 1, 1) := by decide +kernel
theorem dX12_isLamp_1 : decode cX12_isLamp 1 = .ok (.iconst 0, 1) := by decide +kernel
theorem dX12_isLamp_2 : decode cX12_isLamp 2 = .ok (.aload_n 0, 1) := by decide +kernel
theorem dX12_isLamp_3 : decode cX12_isLamp 3 = .ok (.getfield 412, 3) := by decide +kernel
theorem dX12_isLamp_6 : decode cX12_isLamp 6 = .ok (.iconst 1, 1) := by decide +kernel
theorem dX12_isLamp_7 : decode cX12_isLamp 7 = .ok (.isub, 1) := by decide +kernel
theorem dX12_isLamp_8 : decode cX12_isLamp 8 = .ok (.invokestatic 436, 3) := by decide +kernel
theorem dX12_isLamp_11 : decode cX12_isLamp 11 = .ok (.ireturn, 1) := by decide +kernel
theorem dX12_isPerson_0 : decode cX12_isPerson 0 = .ok (.iload_n 1, 1) := by decide +kernel
theorem dX12_isPerson_1 : decode cX12_isPerson 1 = .ok (.iconst 0, 1) := by decide +kernel
theorem dX12_isPerson_2 : decode cX12_isPerson 2 = .ok (.aload_n 0, 1) := by decide +kernel
theorem dX12_isPerson_3 : decode cX12_isPerson 3 = .ok (.getfield 415, 3) := by decide +kernel
theorem dX12_isPerson_6 : decode cX12_isPerson 6 = .ok (.iconst 1, 1) := by decide +kernel
theorem dX12_isPerson_7 : decode cX12_isPerson 7 = .ok (.isub, 1) := by decide +kernel
theorem dX12_isPerson_8 : decode cX12_isPerson 8 = .ok (.invokestatic 436, 3) := by decide +kernel
theorem dX12_isPerson_11 : decode cX12_isPerson 11 = .ok (.ireturn, 1) := by decide +kernel
theorem dX12_isFree_0 : decode cX12_isFree 0 = .ok (.iload_n 1, 1) := by decide +kernel
theorem dX12_isFree_1 : decode cX12_isFree 1 = .ok (.iconst 0, 1) := by decide +kernel
theorem dX12_isFree_2 : decode cX12_isFree 2 = .ok (.aload_n 0, 1) := by decide +kernel
theorem dX12_isFree_3 : decode cX12_isFree 3 = .ok (.getfield 90, 3) := by decide +kernel
theorem dX12_isFree_6 : decode cX12_isFree 6 = .ok (.aload_n 0, 1) := by decide +kernel
theorem dX12_isFree_7 : decode cX12_isFree 7 = .ok (.getfield 93, 3) := by decide +kernel
theorem dX12_isFree_10 : decode cX12_isFree 10 = .ok (.imul, 1) := by decide +kernel
theorem dX12_isFree_11 : decode cX12_isFree 11 = .ok (.iconst 1, 1) := by decide +kernel
theorem dX12_isFree_12 : decode cX12_isFree 12 = .ok (.isub, 1) := by decide +kernel
theorem dX12_isFree_13 : decode cX12_isFree 13 = .ok (.invokestatic 436, 3) := by decide +kernel
theorem dX12_isFree_16 : decode cX12_isFree 16 = .ok (.ifCond .eq 18, 3) := by decide +kernel
theorem dX12_isFree_19 : decode cX12_isFree 19 = .ok (.aload_n 0, 1) := by decide +kernel
theorem dX12_isFree_20 : decode cX12_isFree 20 = .ok (.getfield 403, 3) := by decide +kernel
theorem dX12_isFree_23 : decode cX12_isFree 23 = .ok (.iload_n 1, 1) := by decide +kernel
theorem dX12_isFree_24 : decode cX12_isFree 24 = .ok (.invokestatic 330, 3) := by decide +kernel
theorem dX12_isFree_27 : decode cX12_isFree 27 = .ok (.ifCond .ne 7, 3) := by decide +kernel
theorem dX12_isFree_30 : decode cX12_isFree 30 = .ok (.iconst 1, 1) := by decide +kernel
theorem dX12_isFree_31 : decode cX12_isFree 31 = .ok (.goto 4, 3) := by decide +kernel
theorem dX12_isFree_34 : decode cX12_isFree 34 = .ok (.iconst 0, 1) := by decide +kernel
theorem dX12_isFree_35 : decode cX12_isFree 35 = .ok (.ireturn, 1) := by decide +kernel
theorem dX12_isFar_0 : decode cX12_isFar 0 = .ok (.iload_n 0, 1) := by decide +kernel
theorem dX12_isFar_1 : decode cX12_isFar 1 = .ok (.iconst 0, 1) := by decide +kernel
theorem dX12_isFar_2 : decode cX12_isFar 2 = .ok (.bipush 48, 2) := by decide +kernel
theorem dX12_isFar_4 : decode cX12_isFar 4 = .ok (.invokestatic 436, 3) := by decide +kernel
theorem dX12_isFar_7 : decode cX12_isFar 7 = .ok (.ireturn, 1) := by decide +kernel
theorem dX12_members_0 : decode cX12_members 0 = .ok (.iconst 0, 1) := by decide +kernel
theorem dX12_members_1 : decode cX12_members 1 = .ok (.istore_n 2, 1) := by decide +kernel
theorem dX12_members_2 : decode cX12_members 2 = .ok (.iconst 0, 1) := by decide +kernel
theorem dX12_members_3 : decode cX12_members 3 = .ok (.istore_n 3, 1) := by decide +kernel
theorem dX12_members_4 : decode cX12_members 4 = .ok (.iload_n 3, 1) := by decide +kernel
theorem dX12_members_5 : decode cX12_members 5 = .ok (.bipush 64, 2) := by decide +kernel
theorem dX12_members_7 : decode cX12_members 7 = .ok (.if_icmp .ge 25, 3) := by decide +kernel
theorem dX12_members_10 : decode cX12_members 10 = .ok (.iload_n 2, 1) := by decide +kernel
theorem dX12_members_11 : decode cX12_members 11 = .ok (.lload_n 0, 1) := by decide +kernel
theorem dX12_members_12 : decode cX12_members 12 = .ok (.iload_n 3, 1) := by decide +kernel
theorem dX12_members_13 : decode cX12_members 13 = .ok (.invokestatic 330, 3) := by decide +kernel
theorem dX12_members_16 : decode cX12_members 16 = .ok (.ifCond .eq 7, 3) := by decide +kernel
theorem dX12_members_19 : decode cX12_members 19 = .ok (.iconst 1, 1) := by decide +kernel
theorem dX12_members_20 : decode cX12_members 20 = .ok (.goto 4, 3) := by decide +kernel
theorem dX12_members_23 : decode cX12_members 23 = .ok (.iconst 0, 1) := by decide +kernel
theorem dX12_members_24 : decode cX12_members 24 = .ok (.iadd, 1) := by decide +kernel
theorem dX12_members_25 : decode cX12_members 25 = .ok (.istore_n 2, 1) := by decide +kernel
theorem dX12_members_26 : decode cX12_members 26 = .ok (.iinc 3 1, 3) := by decide +kernel
theorem dX12_members_29 : decode cX12_members 29 = .ok (.goto (-25), 3) := by decide +kernel
theorem dX12_members_32 : decode cX12_members 32 = .ok (.iload_n 2, 1) := by decide +kernel
theorem dX12_members_33 : decode cX12_members 33 = .ok (.ireturn, 1) := by decide +kernel
theorem dX12_leastOf_0 : decode cX12_leastOf 0 = .ok (.iconst 0, 1) := by decide +kernel
theorem dX12_leastOf_1 : decode cX12_leastOf 1 = .ok (.istore_n 2, 1) := by decide +kernel
theorem dX12_leastOf_2 : decode cX12_leastOf 2 = .ok (.iload_n 2, 1) := by decide +kernel
theorem dX12_leastOf_3 : decode cX12_leastOf 3 = .ok (.bipush 64, 2) := by decide +kernel
theorem dX12_leastOf_5 : decode cX12_leastOf 5 = .ok (.if_icmp .ge 17, 3) := by decide +kernel
theorem dX12_leastOf_8 : decode cX12_leastOf 8 = .ok (.lload_n 0, 1) := by decide +kernel
theorem dX12_leastOf_9 : decode cX12_leastOf 9 = .ok (.iload_n 2, 1) := by decide +kernel
theorem dX12_leastOf_10 : decode cX12_leastOf 10 = .ok (.invokestatic 330, 3) := by decide +kernel
theorem dX12_leastOf_13 : decode cX12_leastOf 13 = .ok (.ifCond .ne 9, 3) := by decide +kernel
theorem dX12_leastOf_16 : decode cX12_leastOf 16 = .ok (.iinc 2 1, 3) := by decide +kernel
theorem dX12_leastOf_19 : decode cX12_leastOf 19 = .ok (.goto (-17), 3) := by decide +kernel
theorem dX12_leastOf_22 : decode cX12_leastOf 22 = .ok (.iload_n 2, 1) := by decide +kernel
theorem dX12_leastOf_23 : decode cX12_leastOf 23 = .ok (.bipush 64, 2) := by decide +kernel
theorem dX12_leastOf_25 : decode cX12_leastOf 25 = .ok (.if_icmp .ge 7, 3) := by decide +kernel
theorem dX12_leastOf_28 : decode cX12_leastOf 28 = .ok (.iload_n 2, 1) := by decide +kernel
theorem dX12_leastOf_29 : decode cX12_leastOf 29 = .ok (.goto 4, 3) := by decide +kernel
theorem dX12_leastOf_32 : decode cX12_leastOf 32 = .ok (.iconst (-1), 1) := by decide +kernel
theorem dX12_leastOf_33 : decode cX12_leastOf 33 = .ok (.ireturn, 1) := by decide +kernel
theorem dX12_load_0 : decode cX12_load 0 = .ok (.aload_n 0, 1) := by decide +kernel
theorem dX12_load_1 : decode cX12_load 1 = .ok (.aload_n 0, 1) := by decide +kernel
theorem dX12_load_2 : decode cX12_load 2 = .ok (.getfield 96, 3) := by decide +kernel
theorem dX12_load_5 : decode cX12_load 5 = .ok (.bipush 8, 2) := by decide +kernel
theorem dX12_load_7 : decode cX12_load 7 = .ok (.iaload, 1) := by decide +kernel
theorem dX12_load_8 : decode cX12_load 8 = .ok (.iload_n 1, 1) := by decide +kernel
theorem dX12_load_9 : decode cX12_load 9 = .ok (.iadd, 1) := by decide +kernel
theorem dX12_load_10 : decode cX12_load 10 = .ok (.bipush 24, 2) := by decide +kernel
theorem dX12_load_12 : decode cX12_load 12 = .ok (.irem, 1) := by decide +kernel
theorem dX12_load_13 : decode cX12_load 13 = .ok (.putfield 440, 3) := by decide +kernel
theorem dX12_load_16 : decode cX12_load 16 = .ok (.aload_n 0, 1) := by decide +kernel
theorem dX12_load_17 : decode cX12_load 17 = .ok (.aload_n 0, 1) := by decide +kernel
theorem dX12_load_18 : decode cX12_load 18 = .ok (.getfield 96, 3) := by decide +kernel
theorem dX12_load_21 : decode cX12_load 21 = .ok (.bipush 8, 2) := by decide +kernel
theorem dX12_load_23 : decode cX12_load 23 = .ok (.iaload, 1) := by decide +kernel
theorem dX12_load_24 : decode cX12_load 24 = .ok (.iload_n 1, 1) := by decide +kernel
theorem dX12_load_25 : decode cX12_load 25 = .ok (.iadd, 1) := by decide +kernel
theorem dX12_load_26 : decode cX12_load 26 = .ok (.bipush 24, 2) := by decide +kernel
theorem dX12_load_28 : decode cX12_load 28 = .ok (.idiv, 1) := by decide +kernel
theorem dX12_load_29 : decode cX12_load 29 = .ok (.putfield 443, 3) := by decide +kernel
theorem dX12_load_32 : decode cX12_load 32 = .ok (.aload_n 0, 1) := by decide +kernel
theorem dX12_load_33 : decode cX12_load 33 = .ok (.aload_n 0, 1) := by decide +kernel
theorem dX12_load_34 : decode cX12_load 34 = .ok (.getfield 96, 3) := by decide +kernel
theorem dX12_load_37 : decode cX12_load 37 = .ok (.iconst 5, 1) := by decide +kernel
theorem dX12_load_38 : decode cX12_load 38 = .ok (.iaload, 1) := by decide +kernel
theorem dX12_load_39 : decode cX12_load 39 = .ok (.putfield 446, 3) := by decide +kernel
theorem dX12_load_42 : decode cX12_load 42 = .ok (.aload_n 0, 1) := by decide +kernel
theorem dX12_load_43 : decode cX12_load 43 = .ok (.aload_n 0, 1) := by decide +kernel
theorem dX12_load_44 : decode cX12_load 44 = .ok (.getfield 96, 3) := by decide +kernel
theorem dX12_load_47 : decode cX12_load 47 = .ok (.bipush 6, 2) := by decide +kernel
theorem dX12_load_49 : decode cX12_load 49 = .ok (.iaload, 1) := by decide +kernel
theorem dX12_load_50 : decode cX12_load 50 = .ok (.putfield 449, 3) := by decide +kernel
theorem dX12_load_53 : decode cX12_load 53 = .ok (.aload_n 0, 1) := by decide +kernel
theorem dX12_load_54 : decode cX12_load 54 = .ok (.iconst 0, 1) := by decide +kernel
theorem dX12_load_55 : decode cX12_load 55 = .ok (.putfield 452, 3) := by decide +kernel
theorem dX12_load_58 : decode cX12_load 58 = .ok (.aload_n 0, 1) := by decide +kernel
theorem dX12_load_59 : decode cX12_load 59 = .ok (.aload_n 0, 1) := by decide +kernel
theorem dX12_load_60 : decode cX12_load 60 = .ok (.getfield 96, 3) := by decide +kernel
theorem dX12_load_63 : decode cX12_load 63 = .ok (.bipush 7, 2) := by decide +kernel
theorem dX12_load_65 : decode cX12_load 65 = .ok (.iaload, 1) := by decide +kernel
theorem dX12_load_66 : decode cX12_load 66 = .ok (.iconst 1, 1) := by decide +kernel
theorem dX12_load_67 : decode cX12_load 67 = .ok (.if_icmp .ne 7, 3) := by decide +kernel
theorem dX12_load_70 : decode cX12_load 70 = .ok (.iconst 1, 1) := by decide +kernel
theorem dX12_load_71 : decode cX12_load 71 = .ok (.goto 4, 3) := by decide +kernel
theorem dX12_load_74 : decode cX12_load 74 = .ok (.iconst 0, 1) := by decide +kernel
theorem dX12_load_75 : decode cX12_load 75 = .ok (.putfield 455, 3) := by decide +kernel
theorem dX12_load_78 : decode cX12_load 78 = .ok (.return_, 1) := by decide +kernel
theorem dX12_setHour_0 : decode cX12_setHour 0 = .ok (.aload_n 0, 1) := by decide +kernel
theorem dX12_setHour_1 : decode cX12_setHour 1 = .ok (.iload_n 1, 1) := by decide +kernel
theorem dX12_setHour_2 : decode cX12_setHour 2 = .ok (.bipush 24, 2) := by decide +kernel
theorem dX12_setHour_4 : decode cX12_setHour 4 = .ok (.irem, 1) := by decide +kernel
theorem dX12_setHour_5 : decode cX12_setHour 5 = .ok (.putfield 440, 3) := by decide +kernel
theorem dX12_setHour_8 : decode cX12_setHour 8 = .ok (.aload_n 0, 1) := by decide +kernel
theorem dX12_setHour_9 : decode cX12_setHour 9 = .ok (.iload_n 1, 1) := by decide +kernel
theorem dX12_setHour_10 : decode cX12_setHour 10 = .ok (.bipush 24, 2) := by decide +kernel
theorem dX12_setHour_12 : decode cX12_setHour 12 = .ok (.idiv, 1) := by decide +kernel
theorem dX12_setHour_13 : decode cX12_setHour 13 = .ok (.putfield 443, 3) := by decide +kernel
theorem dX12_setHour_16 : decode cX12_setHour 16 = .ok (.return_, 1) := by decide +kernel
theorem dX12_isOpen_0 : decode cX12_isOpen 0 = .ok (.aload_n 0, 1) := by decide +kernel
theorem dX12_isOpen_1 : decode cX12_isOpen 1 = .ok (.getfield 440, 3) := by decide +kernel
theorem dX12_isOpen_4 : decode cX12_isOpen 4 = .ok (.aload_n 0, 1) := by decide +kernel
theorem dX12_isOpen_5 : decode cX12_isOpen 5 = .ok (.getfield 72, 3) := by decide +kernel
theorem dX12_isOpen_8 : decode cX12_isOpen 8 = .ok (.iload_n 1, 1) := by decide +kernel
theorem dX12_isOpen_9 : decode cX12_isOpen 9 = .ok (.iaload, 1) := by decide +kernel
theorem dX12_isOpen_10 : decode cX12_isOpen 10 = .ok (.if_icmp .lt 31, 3) := by decide +kernel
theorem dX12_isOpen_13 : decode cX12_isOpen 13 = .ok (.aload_n 0, 1) := by decide +kernel
theorem dX12_isOpen_14 : decode cX12_isOpen 14 = .ok (.getfield 440, 3) := by decide +kernel
theorem dX12_isOpen_17 : decode cX12_isOpen 17 = .ok (.aload_n 0, 1) := by decide +kernel
theorem dX12_isOpen_18 : decode cX12_isOpen 18 = .ok (.getfield 75, 3) := by decide +kernel
theorem dX12_isOpen_21 : decode cX12_isOpen 21 = .ok (.iload_n 1, 1) := by decide +kernel
theorem dX12_isOpen_22 : decode cX12_isOpen 22 = .ok (.iaload, 1) := by decide +kernel
theorem dX12_isOpen_23 : decode cX12_isOpen 23 = .ok (.if_icmp .ge 18, 3) := by decide +kernel
theorem dX12_isOpen_26 : decode cX12_isOpen 26 = .ok (.aload_n 0, 1) := by decide +kernel
theorem dX12_isOpen_27 : decode cX12_isOpen 27 = .ok (.getfield 446, 3) := by decide +kernel
theorem dX12_isOpen_30 : decode cX12_isOpen 30 = .ok (.iload_n 1, 1) := by decide +kernel
theorem dX12_isOpen_31 : decode cX12_isOpen 31 = .ok (.ishr, 1) := by decide +kernel
theorem dX12_isOpen_32 : decode cX12_isOpen 32 = .ok (.iconst 1, 1) := by decide +kernel
theorem dX12_isOpen_33 : decode cX12_isOpen 33 = .ok (.iand, 1) := by decide +kernel
theorem dX12_isOpen_34 : decode cX12_isOpen 34 = .ok (.ifCond .ne 7, 3) := by decide +kernel
theorem dX12_isOpen_37 : decode cX12_isOpen 37 = .ok (.iconst 1, 1) := by decide +kernel
theorem dX12_isOpen_38 : decode cX12_isOpen 38 = .ok (.goto 4, 3) := by decide +kernel
theorem dX12_isOpen_41 : decode cX12_isOpen 41 = .ok (.iconst 0, 1) := by decide +kernel
theorem dX12_isOpen_42 : decode cX12_isOpen 42 = .ok (.ireturn, 1) := by decide +kernel
theorem dX12_isLit_0 : decode cX12_isLit 0 = .ok (.aload_n 0, 1) := by decide +kernel
theorem dX12_isLit_1 : decode cX12_isLit 1 = .ok (.getfield 452, 3) := by decide +kernel
theorem dX12_isLit_4 : decode cX12_isLit 4 = .ok (.iload_n 1, 1) := by decide +kernel
theorem dX12_isLit_5 : decode cX12_isLit 5 = .ok (.ishr, 1) := by decide +kernel
theorem dX12_isLit_6 : decode cX12_isLit 6 = .ok (.iconst 1, 1) := by decide +kernel
theorem dX12_isLit_7 : decode cX12_isLit 7 = .ok (.iand, 1) := by decide +kernel
theorem dX12_isLit_8 : decode cX12_isLit 8 = .ok (.iconst 1, 1) := by decide +kernel
theorem dX12_isLit_9 : decode cX12_isLit 9 = .ok (.if_icmp .eq 40, 3) := by decide +kernel
theorem dX12_isLit_12 : decode cX12_isLit 12 = .ok (.aload_n 0, 1) := by decide +kernel
theorem dX12_isLit_13 : decode cX12_isLit 13 = .ok (.getfield 440, 3) := by decide +kernel
theorem dX12_isLit_16 : decode cX12_isLit 16 = .ok (.aload_n 0, 1) := by decide +kernel
theorem dX12_isLit_17 : decode cX12_isLit 17 = .ok (.getfield 81, 3) := by decide +kernel
theorem dX12_isLit_20 : decode cX12_isLit 20 = .ok (.iload_n 1, 1) := by decide +kernel
theorem dX12_isLit_21 : decode cX12_isLit 21 = .ok (.iaload, 1) := by decide +kernel
theorem dX12_isLit_22 : decode cX12_isLit 22 = .ok (.if_icmp .lt 31, 3) := by decide +kernel
theorem dX12_isLit_25 : decode cX12_isLit 25 = .ok (.aload_n 0, 1) := by decide +kernel
theorem dX12_isLit_26 : decode cX12_isLit 26 = .ok (.getfield 440, 3) := by decide +kernel
theorem dX12_isLit_29 : decode cX12_isLit 29 = .ok (.aload_n 0, 1) := by decide +kernel
theorem dX12_isLit_30 : decode cX12_isLit 30 = .ok (.getfield 84, 3) := by decide +kernel
theorem dX12_isLit_33 : decode cX12_isLit 33 = .ok (.iload_n 1, 1) := by decide +kernel
theorem dX12_isLit_34 : decode cX12_isLit 34 = .ok (.iaload, 1) := by decide +kernel
theorem dX12_isLit_35 : decode cX12_isLit 35 = .ok (.if_icmp .ge 18, 3) := by decide +kernel
theorem dX12_isLit_38 : decode cX12_isLit 38 = .ok (.aload_n 0, 1) := by decide +kernel
theorem dX12_isLit_39 : decode cX12_isLit 39 = .ok (.getfield 449, 3) := by decide +kernel
theorem dX12_isLit_42 : decode cX12_isLit 42 = .ok (.iload_n 1, 1) := by decide +kernel
theorem dX12_isLit_43 : decode cX12_isLit 43 = .ok (.ishr, 1) := by decide +kernel
theorem dX12_isLit_44 : decode cX12_isLit 44 = .ok (.iconst 1, 1) := by decide +kernel
theorem dX12_isLit_45 : decode cX12_isLit 45 = .ok (.iand, 1) := by decide +kernel
theorem dX12_isLit_46 : decode cX12_isLit 46 = .ok (.ifCond .ne 7, 3) := by decide +kernel
theorem dX12_isLit_49 : decode cX12_isLit 49 = .ok (.iconst 1, 1) := by decide +kernel
theorem dX12_isLit_50 : decode cX12_isLit 50 = .ok (.goto 4, 3) := by decide +kernel
theorem dX12_isLit_53 : decode cX12_isLit 53 = .ok (.iconst 0, 1) := by decide +kernel
theorem dX12_isLit_54 : decode cX12_isLit 54 = .ok (.ireturn, 1) := by decide +kernel
theorem dX12_row_0 : decode cX12_row 0 = .ok (.lconst 0, 1) := by decide +kernel
theorem dX12_row_1 : decode cX12_row 1 = .ok (.lstore 5, 2) := by decide +kernel
theorem dX12_row_3 : decode cX12_row 3 = .ok (.iload_n 1, 1) := by decide +kernel
theorem dX12_row_4 : decode cX12_row 4 = .ok (.aload_n 0, 1) := by decide +kernel
theorem dX12_row_5 : decode cX12_row 5 = .ok (.getfield 90, 3) := by decide +kernel
theorem dX12_row_8 : decode cX12_row 8 = .ok (.irem, 1) := by decide +kernel
theorem dX12_row_9 : decode cX12_row 9 = .ok (.istore 7, 2) := by decide +kernel
theorem dX12_row_11 : decode cX12_row 11 = .ok (.iload_n 1, 1) := by decide +kernel
theorem dX12_row_12 : decode cX12_row 12 = .ok (.aload_n 0, 1) := by decide +kernel
theorem dX12_row_13 : decode cX12_row 13 = .ok (.getfield 90, 3) := by decide +kernel
theorem dX12_row_16 : decode cX12_row 16 = .ok (.idiv, 1) := by decide +kernel
theorem dX12_row_17 : decode cX12_row 17 = .ok (.istore 8, 2) := by decide +kernel
theorem dX12_row_19 : decode cX12_row 19 = .ok (.iconst 0, 1) := by decide +kernel
theorem dX12_row_20 : decode cX12_row 20 = .ok (.istore 9, 2) := by decide +kernel
theorem dX12_row_22 : decode cX12_row 22 = .ok (.iload 9, 2) := by decide +kernel
theorem dX12_row_24 : decode cX12_row 24 = .ok (.iload 4, 2) := by decide +kernel
theorem dX12_row_26 : decode cX12_row 26 = .ok (.if_icmp .ge 73, 3) := by decide +kernel
theorem dX12_row_29 : decode cX12_row 29 = .ok (.iload 9, 2) := by decide +kernel
theorem dX12_row_31 : decode cX12_row 31 = .ok (.bipush 8, 2) := by decide +kernel
theorem dX12_row_33 : decode cX12_row 33 = .ok (.if_icmp .ge 66, 3) := by decide +kernel
theorem dX12_row_36 : decode cX12_row 36 = .ok (.iload 7, 2) := by decide +kernel
theorem dX12_row_38 : decode cX12_row 38 = .ok (.iload_n 2, 1) := by decide +kernel
theorem dX12_row_39 : decode cX12_row 39 = .ok (.iadd, 1) := by decide +kernel
theorem dX12_row_40 : decode cX12_row 40 = .ok (.istore 7, 2) := by decide +kernel
theorem dX12_row_42 : decode cX12_row 42 = .ok (.iload 8, 2) := by decide +kernel
theorem dX12_row_44 : decode cX12_row 44 = .ok (.iload_n 3, 1) := by decide +kernel
theorem dX12_row_45 : decode cX12_row 45 = .ok (.iadd, 1) := by decide +kernel
theorem dX12_row_46 : decode cX12_row 46 = .ok (.istore 8, 2) := by decide +kernel
theorem dX12_row_48 : decode cX12_row 48 = .ok (.iload 7, 2) := by decide +kernel
theorem dX12_row_50 : decode cX12_row 50 = .ok (.ifCond .lt 43, 3) := by decide +kernel
theorem dX12_row_53 : decode cX12_row 53 = .ok (.iload 7, 2) := by decide +kernel
theorem dX12_row_55 : decode cX12_row 55 = .ok (.aload_n 0, 1) := by decide +kernel
theorem dX12_row_56 : decode cX12_row 56 = .ok (.getfield 90, 3) := by decide +kernel
theorem dX12_row_59 : decode cX12_row 59 = .ok (.if_icmp .ge 34, 3) := by decide +kernel
theorem dX12_row_62 : decode cX12_row 62 = .ok (.iload 8, 2) := by decide +kernel
theorem dX12_row_64 : decode cX12_row 64 = .ok (.ifCond .lt 29, 3) := by decide +kernel
theorem dX12_row_67 : decode cX12_row 67 = .ok (.iload 8, 2) := by decide +kernel
theorem dX12_row_69 : decode cX12_row 69 = .ok (.aload_n 0, 1) := by decide +kernel
theorem dX12_row_70 : decode cX12_row 70 = .ok (.getfield 93, 3) := by decide +kernel
theorem dX12_row_73 : decode cX12_row 73 = .ok (.if_icmp .ge 20, 3) := by decide +kernel
theorem dX12_row_76 : decode cX12_row 76 = .ok (.lload 5, 2) := by decide +kernel
theorem dX12_row_78 : decode cX12_row 78 = .ok (.lconst 1, 1) := by decide +kernel
theorem dX12_row_79 : decode cX12_row 79 = .ok (.iload 8, 2) := by decide +kernel
theorem dX12_row_81 : decode cX12_row 81 = .ok (.aload_n 0, 1) := by decide +kernel
theorem dX12_row_82 : decode cX12_row 82 = .ok (.getfield 90, 3) := by decide +kernel
theorem dX12_row_85 : decode cX12_row 85 = .ok (.imul, 1) := by decide +kernel
theorem dX12_row_86 : decode cX12_row 86 = .ok (.iload 7, 2) := by decide +kernel
theorem dX12_row_88 : decode cX12_row 88 = .ok (.iadd, 1) := by decide +kernel
theorem dX12_row_89 : decode cX12_row 89 = .ok (.lshl, 1) := by decide +kernel
theorem dX12_row_90 : decode cX12_row 90 = .ok (.lor, 1) := by decide +kernel
theorem dX12_row_91 : decode cX12_row 91 = .ok (.lstore 5, 2) := by decide +kernel
theorem dX12_row_93 : decode cX12_row 93 = .ok (.iinc 9 1, 3) := by decide +kernel
theorem dX12_row_96 : decode cX12_row 96 = .ok (.goto (-74), 3) := by decide +kernel
theorem dX12_row_99 : decode cX12_row 99 = .ok (.lload 5, 2) := by decide +kernel
theorem dX12_row_101 : decode cX12_row 101 = .ok (.aload_n 0, 1) := by decide +kernel
theorem dX12_row_102 : decode cX12_row 102 = .ok (.getfield 403, 3) := by decide +kernel
theorem dX12_row_105 : decode cX12_row 105 = .ok (.ldc2_w 458, 3) := by decide +kernel
theorem dX12_row_108 : decode cX12_row 108 = .ok (.lxor, 1) := by decide +kernel
theorem dX12_row_109 : decode cX12_row 109 = .ok (.land, 1) := by decide +kernel
theorem dX12_row_110 : decode cX12_row 110 = .ok (.lreturn, 1) := by decide +kernel
theorem dX12_toward_0 : decode cX12_toward 0 = .ok (.iload_n 1, 1) := by decide +kernel
theorem dX12_toward_1 : decode cX12_toward 1 = .ok (.iload_n 0, 1) := by decide +kernel
theorem dX12_toward_2 : decode cX12_toward 2 = .ok (.if_icmp .le 7, 3) := by decide +kernel
theorem dX12_toward_5 : decode cX12_toward 5 = .ok (.iconst 1, 1) := by decide +kernel
theorem dX12_toward_6 : decode cX12_toward 6 = .ok (.goto 13, 3) := by decide +kernel
theorem dX12_toward_9 : decode cX12_toward 9 = .ok (.iload_n 1, 1) := by decide +kernel
theorem dX12_toward_10 : decode cX12_toward 10 = .ok (.iload_n 0, 1) := by decide +kernel
theorem dX12_toward_11 : decode cX12_toward 11 = .ok (.if_icmp .ge 7, 3) := by decide +kernel
theorem dX12_toward_14 : decode cX12_toward 14 = .ok (.iconst (-1), 1) := by decide +kernel
theorem dX12_toward_15 : decode cX12_toward 15 = .ok (.goto 4, 3) := by decide +kernel
theorem dX12_toward_18 : decode cX12_toward 18 = .ok (.iconst 0, 1) := by decide +kernel
theorem dX12_toward_19 : decode cX12_toward 19 = .ok (.ireturn, 1) := by decide +kernel
theorem dX12_byLamp_0 : decode cX12_byLamp 0 = .ok (.aload_n 0, 1) := by decide +kernel
theorem dX12_byLamp_1 : decode cX12_byLamp 1 = .ok (.getfield 78, 3) := by decide +kernel
theorem dX12_byLamp_4 : decode cX12_byLamp 4 = .ok (.iload_n 2, 1) := by decide +kernel
theorem dX12_byLamp_5 : decode cX12_byLamp 5 = .ok (.iaload, 1) := by decide +kernel
theorem dX12_byLamp_6 : decode cX12_byLamp 6 = .ok (.aload_n 0, 1) := by decide +kernel
theorem dX12_byLamp_7 : decode cX12_byLamp 7 = .ok (.getfield 90, 3) := by decide +kernel
theorem dX12_byLamp_10 : decode cX12_byLamp 10 = .ok (.irem, 1) := by decide +kernel
theorem dX12_byLamp_11 : decode cX12_byLamp 11 = .ok (.istore_n 3, 1) := by decide +kernel
theorem dX12_byLamp_12 : decode cX12_byLamp 12 = .ok (.aload_n 0, 1) := by decide +kernel
theorem dX12_byLamp_13 : decode cX12_byLamp 13 = .ok (.getfield 78, 3) := by decide +kernel
theorem dX12_byLamp_16 : decode cX12_byLamp 16 = .ok (.iload_n 2, 1) := by decide +kernel
theorem dX12_byLamp_17 : decode cX12_byLamp 17 = .ok (.iaload, 1) := by decide +kernel
theorem dX12_byLamp_18 : decode cX12_byLamp 18 = .ok (.aload_n 0, 1) := by decide +kernel
theorem dX12_byLamp_19 : decode cX12_byLamp 19 = .ok (.getfield 90, 3) := by decide +kernel
theorem dX12_byLamp_22 : decode cX12_byLamp 22 = .ok (.idiv, 1) := by decide +kernel
theorem dX12_byLamp_23 : decode cX12_byLamp 23 = .ok (.istore 4, 2) := by decide +kernel
theorem dX12_byLamp_25 : decode cX12_byLamp 25 = .ok (.aload_n 0, 1) := by decide +kernel
theorem dX12_byLamp_26 : decode cX12_byLamp 26 = .ok (.getfield 66, 3) := by decide +kernel
theorem dX12_byLamp_29 : decode cX12_byLamp 29 = .ok (.iload_n 1, 1) := by decide +kernel
theorem dX12_byLamp_30 : decode cX12_byLamp 30 = .ok (.iaload, 1) := by decide +kernel
theorem dX12_byLamp_31 : decode cX12_byLamp 31 = .ok (.aload_n 0, 1) := by decide +kernel
theorem dX12_byLamp_32 : decode cX12_byLamp 32 = .ok (.getfield 90, 3) := by decide +kernel
theorem dX12_byLamp_35 : decode cX12_byLamp 35 = .ok (.irem, 1) := by decide +kernel
theorem dX12_byLamp_36 : decode cX12_byLamp 36 = .ok (.istore 5, 2) := by decide +kernel
theorem dX12_byLamp_38 : decode cX12_byLamp 38 = .ok (.aload_n 0, 1) := by decide +kernel
theorem dX12_byLamp_39 : decode cX12_byLamp 39 = .ok (.getfield 66, 3) := by decide +kernel
theorem dX12_byLamp_42 : decode cX12_byLamp 42 = .ok (.iload_n 1, 1) := by decide +kernel
theorem dX12_byLamp_43 : decode cX12_byLamp 43 = .ok (.iaload, 1) := by decide +kernel
theorem dX12_byLamp_44 : decode cX12_byLamp 44 = .ok (.aload_n 0, 1) := by decide +kernel
theorem dX12_byLamp_45 : decode cX12_byLamp 45 = .ok (.getfield 90, 3) := by decide +kernel
theorem dX12_byLamp_48 : decode cX12_byLamp 48 = .ok (.idiv, 1) := by decide +kernel
theorem dX12_byLamp_49 : decode cX12_byLamp 49 = .ok (.istore 6, 2) := by decide +kernel
theorem dX12_byLamp_51 : decode cX12_byLamp 51 = .ok (.aload_n 0, 1) := by decide +kernel
theorem dX12_byLamp_52 : decode cX12_byLamp 52 = .ok (.getfield 78, 3) := by decide +kernel
theorem dX12_byLamp_55 : decode cX12_byLamp 55 = .ok (.iload_n 2, 1) := by decide +kernel
theorem dX12_byLamp_56 : decode cX12_byLamp 56 = .ok (.iaload, 1) := by decide +kernel
theorem dX12_byLamp_57 : decode cX12_byLamp 57 = .ok (.aload_n 0, 1) := by decide +kernel
theorem dX12_byLamp_58 : decode cX12_byLamp 58 = .ok (.getfield 66, 3) := by decide +kernel
theorem dX12_byLamp_61 : decode cX12_byLamp 61 = .ok (.iload_n 1, 1) := by decide +kernel
theorem dX12_byLamp_62 : decode cX12_byLamp 62 = .ok (.iaload, 1) := by decide +kernel
theorem dX12_byLamp_63 : decode cX12_byLamp 63 = .ok (.if_icmp .eq 16, 3) := by decide +kernel
theorem dX12_byLamp_66 : decode cX12_byLamp 66 = .ok (.iload_n 3, 1) := by decide +kernel
theorem dX12_byLamp_67 : decode cX12_byLamp 67 = .ok (.iload 5, 2) := by decide +kernel
theorem dX12_byLamp_69 : decode cX12_byLamp 69 = .ok (.if_icmp .eq 12, 3) := by decide +kernel
theorem dX12_byLamp_72 : decode cX12_byLamp 72 = .ok (.iload 4, 2) := by decide +kernel
theorem dX12_byLamp_74 : decode cX12_byLamp 74 = .ok (.iload 6, 2) := by decide +kernel
theorem dX12_byLamp_76 : decode cX12_byLamp 76 = .ok (.if_icmp .eq 5, 3) := by decide +kernel
theorem dX12_byLamp_79 : decode cX12_byLamp 79 = .ok (.lconst 0, 1) := by decide +kernel
theorem dX12_byLamp_80 : decode cX12_byLamp 80 = .ok (.lreturn, 1) := by decide +kernel
theorem dX12_byLamp_81 : decode cX12_byLamp 81 = .ok (.iload_n 3, 1) := by decide +kernel
theorem dX12_byLamp_82 : decode cX12_byLamp 82 = .ok (.iload 5, 2) := by decide +kernel
theorem dX12_byLamp_84 : decode cX12_byLamp 84 = .ok (.invokestatic 460, 3) := by decide +kernel
theorem dX12_byLamp_87 : decode cX12_byLamp 87 = .ok (.istore 7, 2) := by decide +kernel
theorem dX12_byLamp_89 : decode cX12_byLamp 89 = .ok (.iload 4, 2) := by decide +kernel
theorem dX12_byLamp_91 : decode cX12_byLamp 91 = .ok (.iload 6, 2) := by decide +kernel
theorem dX12_byLamp_93 : decode cX12_byLamp 93 = .ok (.invokestatic 460, 3) := by decide +kernel
theorem dX12_byLamp_96 : decode cX12_byLamp 96 = .ok (.istore 8, 2) := by decide +kernel
theorem dX12_byLamp_98 : decode cX12_byLamp 98 = .ok (.aload_n 0, 1) := by decide +kernel
theorem dX12_byLamp_99 : decode cX12_byLamp 99 = .ok (.getfield 78, 3) := by decide +kernel
theorem dX12_byLamp_102 : decode cX12_byLamp 102 = .ok (.iload_n 2, 1) := by decide +kernel
theorem dX12_byLamp_103 : decode cX12_byLamp 103 = .ok (.iaload, 1) := by decide +kernel
theorem dX12_byLamp_104 : decode cX12_byLamp 104 = .ok (.iload 7, 2) := by decide +kernel
theorem dX12_byLamp_106 : decode cX12_byLamp 106 = .ok (.iadd, 1) := by decide +kernel
theorem dX12_byLamp_107 : decode cX12_byLamp 107 = .ok (.iload 8, 2) := by decide +kernel
theorem dX12_byLamp_109 : decode cX12_byLamp 109 = .ok (.aload_n 0, 1) := by decide +kernel
theorem dX12_byLamp_110 : decode cX12_byLamp 110 = .ok (.getfield 90, 3) := by decide +kernel
theorem dX12_byLamp_113 : decode cX12_byLamp 113 = .ok (.imul, 1) := by decide +kernel
theorem dX12_byLamp_114 : decode cX12_byLamp 114 = .ok (.iadd, 1) := by decide +kernel
theorem dX12_byLamp_115 : decode cX12_byLamp 115 = .ok (.istore 9, 2) := by decide +kernel
theorem dX12_byLamp_117 : decode cX12_byLamp 117 = .ok (.iload 9, 2) := by decide +kernel
theorem dX12_byLamp_119 : decode cX12_byLamp 119 = .ok (.aload_n 0, 1) := by decide +kernel
theorem dX12_byLamp_120 : decode cX12_byLamp 120 = .ok (.getfield 66, 3) := by decide +kernel
theorem dX12_byLamp_123 : decode cX12_byLamp 123 = .ok (.iload_n 1, 1) := by decide +kernel
theorem dX12_byLamp_124 : decode cX12_byLamp 124 = .ok (.iaload, 1) := by decide +kernel
theorem dX12_byLamp_125 : decode cX12_byLamp 125 = .ok (.if_icmp .eq 35, 3) := by decide +kernel
theorem dX12_byLamp_128 : decode cX12_byLamp 128 = .ok (.aload_n 0, 1) := by decide +kernel
theorem dX12_byLamp_129 : decode cX12_byLamp 129 = .ok (.getfield 403, 3) := by decide +kernel
theorem dX12_byLamp_132 : decode cX12_byLamp 132 = .ok (.iload 9, 2) := by decide +kernel
theorem dX12_byLamp_134 : decode cX12_byLamp 134 = .ok (.invokestatic 330, 3) := by decide +kernel
theorem dX12_byLamp_137 : decode cX12_byLamp 137 = .ok (.ifCond .eq 5, 3) := by decide +kernel
theorem dX12_byLamp_140 : decode cX12_byLamp 140 = .ok (.lconst 0, 1) := by decide +kernel
theorem dX12_byLamp_141 : decode cX12_byLamp 141 = .ok (.lreturn, 1) := by decide +kernel
theorem dX12_byLamp_142 : decode cX12_byLamp 142 = .ok (.iload 9, 2) := by decide +kernel
theorem dX12_byLamp_144 : decode cX12_byLamp 144 = .ok (.iload 7, 2) := by decide +kernel
theorem dX12_byLamp_146 : decode cX12_byLamp 146 = .ok (.iload 8, 2) := by decide +kernel
theorem dX12_byLamp_148 : decode cX12_byLamp 148 = .ok (.aload_n 0, 1) := by decide +kernel
theorem dX12_byLamp_149 : decode cX12_byLamp 149 = .ok (.getfield 90, 3) := by decide +kernel
theorem dX12_byLamp_152 : decode cX12_byLamp 152 = .ok (.imul, 1) := by decide +kernel
theorem dX12_byLamp_153 : decode cX12_byLamp 153 = .ok (.iadd, 1) := by decide +kernel
theorem dX12_byLamp_154 : decode cX12_byLamp 154 = .ok (.iadd, 1) := by decide +kernel
theorem dX12_byLamp_155 : decode cX12_byLamp 155 = .ok (.istore 9, 2) := by decide +kernel
theorem dX12_byLamp_157 : decode cX12_byLamp 157 = .ok (.goto (-40), 3) := by decide +kernel
theorem dX12_byLamp_160 : decode cX12_byLamp 160 = .ok (.aload_n 0, 1) := by decide +kernel
theorem dX12_byLamp_161 : decode cX12_byLamp 161 = .ok (.aload_n 0, 1) := by decide +kernel
theorem dX12_byLamp_162 : decode cX12_byLamp 162 = .ok (.getfield 66, 3) := by decide +kernel
theorem dX12_byLamp_165 : decode cX12_byLamp 165 = .ok (.iload_n 1, 1) := by decide +kernel
theorem dX12_byLamp_166 : decode cX12_byLamp 166 = .ok (.iaload, 1) := by decide +kernel
theorem dX12_byLamp_167 : decode cX12_byLamp 167 = .ok (.iload 7, 2) := by decide +kernel
theorem dX12_byLamp_169 : decode cX12_byLamp 169 = .ok (.iload 8, 2) := by decide +kernel
theorem dX12_byLamp_171 : decode cX12_byLamp 171 = .ok (.aload_n 0, 1) := by decide +kernel
theorem dX12_byLamp_172 : decode cX12_byLamp 172 = .ok (.getfield 69, 3) := by decide +kernel
theorem dX12_byLamp_175 : decode cX12_byLamp 175 = .ok (.iload_n 1, 1) := by decide +kernel
theorem dX12_byLamp_176 : decode cX12_byLamp 176 = .ok (.iaload, 1) := by decide +kernel
theorem dX12_byLamp_177 : decode cX12_byLamp 177 = .ok (.invokevirtual 463, 3) := by decide +kernel
theorem dX12_byLamp_180 : decode cX12_byLamp 180 = .ok (.lreturn, 1) := by decide +kernel
theorem dX12_capped_0 : decode cX12_capped 0 = .ok (.iload_n 0, 1) := by decide +kernel
theorem dX12_capped_1 : decode cX12_capped 1 = .ok (.bipush 8, 2) := by decide +kernel
theorem dX12_capped_3 : decode cX12_capped 3 = .ok (.if_icmp .le 8, 3) := by decide +kernel
theorem dX12_capped_6 : decode cX12_capped 6 = .ok (.bipush 8, 2) := by decide +kernel
theorem dX12_capped_8 : decode cX12_capped 8 = .ok (.goto 15, 3) := by decide +kernel
theorem dX12_capped_11 : decode cX12_capped 11 = .ok (.iload_n 0, 1) := by decide +kernel
theorem dX12_capped_12 : decode cX12_capped 12 = .ok (.bipush (-8), 2) := by decide +kernel
theorem dX12_capped_14 : decode cX12_capped 14 = .ok (.if_icmp .ge 8, 3) := by decide +kernel
theorem dX12_capped_17 : decode cX12_capped 17 = .ok (.bipush (-8), 2) := by decide +kernel
theorem dX12_capped_19 : decode cX12_capped 19 = .ok (.goto 4, 3) := by decide +kernel
theorem dX12_capped_22 : decode cX12_capped 22 = .ok (.iload_n 0, 1) := by decide +kernel
theorem dX12_capped_23 : decode cX12_capped 23 = .ok (.ireturn, 1) := by decide +kernel
theorem dX12_shadowOf_0 : decode cX12_shadowOf 0 = .ok (.aload_n 0, 1) := by decide +kernel
theorem dX12_shadowOf_1 : decode cX12_shadowOf 1 = .ok (.getfield 455, 3) := by decide +kernel
theorem dX12_shadowOf_4 : decode cX12_shadowOf 4 = .ok (.ifCond .eq 7, 3) := by decide +kernel
theorem dX12_shadowOf_7 : decode cX12_shadowOf 7 = .ok (.iconst 0, 1) := by decide +kernel
theorem dX12_shadowOf_8 : decode cX12_shadowOf 8 = .ok (.goto 24, 3) := by decide +kernel
theorem dX12_shadowOf_11 : decode cX12_shadowOf 11 = .ok (.aload_n 0, 1) := by decide +kernel
theorem dX12_shadowOf_12 : decode cX12_shadowOf 12 = .ok (.aload_n 0, 1) := by decide +kernel
theorem dX12_shadowOf_13 : decode cX12_shadowOf 13 = .ok (.getfield 69, 3) := by decide +kernel
theorem dX12_shadowOf_16 : decode cX12_shadowOf 16 = .ok (.iload_n 1, 1) := by decide +kernel
theorem dX12_shadowOf_17 : decode cX12_shadowOf 17 = .ok (.iaload, 1) := by decide +kernel
theorem dX12_shadowOf_18 : decode cX12_shadowOf 18 = .ok (.aload_n 0, 1) := by decide +kernel
theorem dX12_shadowOf_19 : decode cX12_shadowOf 19 = .ok (.getfield 440, 3) := by decide +kernel
theorem dX12_shadowOf_22 : decode cX12_shadowOf 22 = .ok (.aload_n 0, 1) := by decide +kernel
theorem dX12_shadowOf_23 : decode cX12_shadowOf 23 = .ok (.getfield 443, 3) := by decide +kernel
theorem dX12_shadowOf_26 : decode cX12_shadowOf 26 = .ok (.invokevirtual 467, 3) := by decide +kernel
theorem dX12_shadowOf_29 : decode cX12_shadowOf 29 = .ok (.invokestatic 470, 3) := by decide +kernel
theorem dX12_shadowOf_32 : decode cX12_shadowOf 32 = .ok (.istore_n 2, 1) := by decide +kernel
theorem dX12_shadowOf_33 : decode cX12_shadowOf 33 = .ok (.iload_n 2, 1) := by decide +kernel
theorem dX12_shadowOf_34 : decode cX12_shadowOf 34 = .ok (.ifCond .le 19, 3) := by decide +kernel
theorem dX12_shadowOf_37 : decode cX12_shadowOf 37 = .ok (.aload_n 0, 1) := by decide +kernel
theorem dX12_shadowOf_38 : decode cX12_shadowOf 38 = .ok (.aload_n 0, 1) := by decide +kernel
theorem dX12_shadowOf_39 : decode cX12_shadowOf 39 = .ok (.getfield 66, 3) := by decide +kernel
theorem dX12_shadowOf_42 : decode cX12_shadowOf 42 = .ok (.iload_n 1, 1) := by decide +kernel
theorem dX12_shadowOf_43 : decode cX12_shadowOf 43 = .ok (.iaload, 1) := by decide +kernel
theorem dX12_shadowOf_44 : decode cX12_shadowOf 44 = .ok (.iconst 1, 1) := by decide +kernel
theorem dX12_shadowOf_45 : decode cX12_shadowOf 45 = .ok (.iconst 0, 1) := by decide +kernel
theorem dX12_shadowOf_46 : decode cX12_shadowOf 46 = .ok (.iload_n 2, 1) := by decide +kernel
theorem dX12_shadowOf_47 : decode cX12_shadowOf 47 = .ok (.invokevirtual 463, 3) := by decide +kernel
theorem dX12_shadowOf_50 : decode cX12_shadowOf 50 = .ok (.goto 17, 3) := by decide +kernel
theorem dX12_shadowOf_53 : decode cX12_shadowOf 53 = .ok (.aload_n 0, 1) := by decide +kernel
theorem dX12_shadowOf_54 : decode cX12_shadowOf 54 = .ok (.aload_n 0, 1) := by decide +kernel
theorem dX12_shadowOf_55 : decode cX12_shadowOf 55 = .ok (.getfield 66, 3) := by decide +kernel
theorem dX12_shadowOf_58 : decode cX12_shadowOf 58 = .ok (.iload_n 1, 1) := by decide +kernel
theorem dX12_shadowOf_59 : decode cX12_shadowOf 59 = .ok (.iaload, 1) := by decide +kernel
theorem dX12_shadowOf_60 : decode cX12_shadowOf 60 = .ok (.iconst (-1), 1) := by decide +kernel
theorem dX12_shadowOf_61 : decode cX12_shadowOf 61 = .ok (.iconst 0, 1) := by decide +kernel
theorem dX12_shadowOf_62 : decode cX12_shadowOf 62 = .ok (.iload_n 2, 1) := by decide +kernel
theorem dX12_shadowOf_63 : decode cX12_shadowOf 63 = .ok (.ineg, 1) := by decide +kernel
theorem dX12_shadowOf_64 : decode cX12_shadowOf 64 = .ok (.invokevirtual 463, 3) := by decide +kernel
theorem dX12_shadowOf_67 : decode cX12_shadowOf 67 = .ok (.lstore_n 3, 1) := by decide +kernel
theorem dX12_shadowOf_68 : decode cX12_shadowOf 68 = .ok (.iconst 0, 1) := by decide +kernel
theorem dX12_shadowOf_69 : decode cX12_shadowOf 69 = .ok (.istore 5, 2) := by decide +kernel
theorem dX12_shadowOf_71 : decode cX12_shadowOf 71 = .ok (.iload 5, 2) := by decide +kernel
theorem dX12_shadowOf_73 : decode cX12_shadowOf 73 = .ok (.aload_n 0, 1) := by decide +kernel
theorem dX12_shadowOf_74 : decode cX12_shadowOf 74 = .ok (.getfield 412, 3) := by decide +kernel
theorem dX12_shadowOf_77 : decode cX12_shadowOf 77 = .ok (.if_icmp .ge 28, 3) := by decide +kernel
theorem dX12_shadowOf_80 : decode cX12_shadowOf 80 = .ok (.aload_n 0, 1) := by decide +kernel
theorem dX12_shadowOf_81 : decode cX12_shadowOf 81 = .ok (.iload 5, 2) := by decide +kernel
theorem dX12_shadowOf_83 : decode cX12_shadowOf 83 = .ok (.invokevirtual 473, 3) := by decide +kernel
theorem dX12_shadowOf_86 : decode cX12_shadowOf 86 = .ok (.ifCond .eq 13, 3) := by decide +kernel
theorem dX12_shadowOf_89 : decode cX12_shadowOf 89 = .ok (.lload_n 3, 1) := by decide +kernel
theorem dX12_shadowOf_90 : decode cX12_shadowOf 90 = .ok (.aload_n 0, 1) := by decide +kernel
theorem dX12_shadowOf_91 : decode cX12_shadowOf 91 = .ok (.iload_n 1, 1) := by decide +kernel
theorem dX12_shadowOf_92 : decode cX12_shadowOf 92 = .ok (.iload 5, 2) := by decide +kernel
theorem dX12_shadowOf_94 : decode cX12_shadowOf 94 = .ok (.invokevirtual 476, 3) := by decide +kernel
theorem dX12_shadowOf_97 : decode cX12_shadowOf 97 = .ok (.lor, 1) := by decide +kernel
theorem dX12_shadowOf_98 : decode cX12_shadowOf 98 = .ok (.lstore_n 3, 1) := by decide +kernel
theorem dX12_shadowOf_99 : decode cX12_shadowOf 99 = .ok (.iinc 5 1, 3) := by decide +kernel
theorem dX12_shadowOf_102 : decode cX12_shadowOf 102 = .ok (.goto (-31), 3) := by decide +kernel
theorem dX12_shadowOf_105 : decode cX12_shadowOf 105 = .ok (.lload_n 3, 1) := by decide +kernel
theorem dX12_shadowOf_106 : decode cX12_shadowOf 106 = .ok (.lreturn, 1) := by decide +kernel
theorem dX12_layShadows_0 : decode cX12_layShadows 0 = .ok (.iconst 0, 1) := by decide +kernel
theorem dX12_layShadows_1 : decode cX12_layShadows 1 = .ok (.istore_n 1, 1) := by decide +kernel
theorem dX12_layShadows_2 : decode cX12_layShadows 2 = .ok (.iload_n 1, 1) := by decide +kernel
theorem dX12_layShadows_3 : decode cX12_layShadows 3 = .ok (.aload_n 0, 1) := by decide +kernel
theorem dX12_layShadows_4 : decode cX12_layShadows 4 = .ok (.getfield 409, 3) := by decide +kernel
theorem dX12_layShadows_7 : decode cX12_layShadows 7 = .ok (.if_icmp .ge 20, 3) := by decide +kernel
theorem dX12_layShadows_10 : decode cX12_layShadows 10 = .ok (.aload_n 0, 1) := by decide +kernel
theorem dX12_layShadows_11 : decode cX12_layShadows 11 = .ok (.getfield 99, 3) := by decide +kernel
theorem dX12_layShadows_14 : decode cX12_layShadows 14 = .ok (.iload_n 1, 1) := by decide +kernel
theorem dX12_layShadows_15 : decode cX12_layShadows 15 = .ok (.aload_n 0, 1) := by decide +kernel
theorem dX12_layShadows_16 : decode cX12_layShadows 16 = .ok (.iload_n 1, 1) := by decide +kernel
theorem dX12_layShadows_17 : decode cX12_layShadows 17 = .ok (.invokevirtual 480, 3) := by decide +kernel
theorem dX12_layShadows_20 : decode cX12_layShadows 20 = .ok (.lastore, 1) := by decide +kernel
theorem dX12_layShadows_21 : decode cX12_layShadows 21 = .ok (.iinc 1 1, 3) := by decide +kernel
theorem dX12_layShadows_24 : decode cX12_layShadows 24 = .ok (.goto (-22), 3) := by decide +kernel
theorem dX12_layShadows_27 : decode cX12_layShadows 27 = .ok (.return_, 1) := by decide +kernel
theorem dX12_nextTo_0 : decode cX12_nextTo 0 = .ok (.aload_n 0, 1) := by decide +kernel
theorem dX12_nextTo_1 : decode cX12_nextTo 1 = .ok (.iload_n 1, 1) := by decide +kernel
theorem dX12_nextTo_2 : decode cX12_nextTo 2 = .ok (.iconst 1, 1) := by decide +kernel
theorem dX12_nextTo_3 : decode cX12_nextTo 3 = .ok (.iconst 0, 1) := by decide +kernel
theorem dX12_nextTo_4 : decode cX12_nextTo 4 = .ok (.iconst 1, 1) := by decide +kernel
theorem dX12_nextTo_5 : decode cX12_nextTo 5 = .ok (.invokevirtual 463, 3) := by decide +kernel
theorem dX12_nextTo_8 : decode cX12_nextTo 8 = .ok (.aload_n 0, 1) := by decide +kernel
theorem dX12_nextTo_9 : decode cX12_nextTo 9 = .ok (.iload_n 1, 1) := by decide +kernel
theorem dX12_nextTo_10 : decode cX12_nextTo 10 = .ok (.iconst (-1), 1) := by decide +kernel
theorem dX12_nextTo_11 : decode cX12_nextTo 11 = .ok (.iconst 0, 1) := by decide +kernel
theorem dX12_nextTo_12 : decode cX12_nextTo 12 = .ok (.iconst 1, 1) := by decide +kernel
theorem dX12_nextTo_13 : decode cX12_nextTo 13 = .ok (.invokevirtual 463, 3) := by decide +kernel
theorem dX12_nextTo_16 : decode cX12_nextTo 16 = .ok (.lor, 1) := by decide +kernel
theorem dX12_nextTo_17 : decode cX12_nextTo 17 = .ok (.aload_n 0, 1) := by decide +kernel
theorem dX12_nextTo_18 : decode cX12_nextTo 18 = .ok (.iload_n 1, 1) := by decide +kernel
theorem dX12_nextTo_19 : decode cX12_nextTo 19 = .ok (.iconst 0, 1) := by decide +kernel
theorem dX12_nextTo_20 : decode cX12_nextTo 20 = .ok (.iconst 1, 1) := by decide +kernel
theorem dX12_nextTo_21 : decode cX12_nextTo 21 = .ok (.iconst 1, 1) := by decide +kernel
theorem dX12_nextTo_22 : decode cX12_nextTo 22 = .ok (.invokevirtual 463, 3) := by decide +kernel
theorem dX12_nextTo_25 : decode cX12_nextTo 25 = .ok (.lor, 1) := by decide +kernel
theorem dX12_nextTo_26 : decode cX12_nextTo 26 = .ok (.aload_n 0, 1) := by decide +kernel
theorem dX12_nextTo_27 : decode cX12_nextTo 27 = .ok (.iload_n 1, 1) := by decide +kernel
theorem dX12_nextTo_28 : decode cX12_nextTo 28 = .ok (.iconst 0, 1) := by decide +kernel
theorem dX12_nextTo_29 : decode cX12_nextTo 29 = .ok (.iconst (-1), 1) := by decide +kernel
theorem dX12_nextTo_30 : decode cX12_nextTo 30 = .ok (.iconst 1, 1) := by decide +kernel
theorem dX12_nextTo_31 : decode cX12_nextTo 31 = .ok (.invokevirtual 463, 3) := by decide +kernel
theorem dX12_nextTo_34 : decode cX12_nextTo 34 = .ok (.lor, 1) := by decide +kernel
theorem dX12_nextTo_35 : decode cX12_nextTo 35 = .ok (.lreturn, 1) := by decide +kernel
theorem dX12_movesFrom_0 : decode cX12_movesFrom 0 = .ok (.lconst 1, 1) := by decide +kernel
theorem dX12_movesFrom_1 : decode cX12_movesFrom 1 = .ok (.iload_n 1, 1) := by decide +kernel
theorem dX12_movesFrom_2 : decode cX12_movesFrom 2 = .ok (.lshl, 1) := by decide +kernel
theorem dX12_movesFrom_3 : decode cX12_movesFrom 3 = .ok (.aload_n 0, 1) := by decide +kernel
theorem dX12_movesFrom_4 : decode cX12_movesFrom 4 = .ok (.iload_n 1, 1) := by decide +kernel
theorem dX12_movesFrom_5 : decode cX12_movesFrom 5 = .ok (.invokevirtual 484, 3) := by decide +kernel
theorem dX12_movesFrom_8 : decode cX12_movesFrom 8 = .ok (.lor, 1) := by decide +kernel
theorem dX12_movesFrom_9 : decode cX12_movesFrom 9 = .ok (.lstore_n 2, 1) := by decide +kernel
theorem dX12_movesFrom_10 : decode cX12_movesFrom 10 = .ok (.iconst 0, 1) := by decide +kernel
theorem dX12_movesFrom_11 : decode cX12_movesFrom 11 = .ok (.istore 4, 2) := by decide +kernel
theorem dX12_movesFrom_13 : decode cX12_movesFrom 13 = .ok (.iload 4, 2) := by decide +kernel
theorem dX12_movesFrom_15 : decode cX12_movesFrom 15 = .ok (.aload_n 0, 1) := by decide +kernel
theorem dX12_movesFrom_16 : decode cX12_movesFrom 16 = .ok (.getfield 409, 3) := by decide +kernel
theorem dX12_movesFrom_19 : decode cX12_movesFrom 19 = .ok (.if_icmp .ge 137, 3) := by decide +kernel
theorem dX12_movesFrom_22 : decode cX12_movesFrom 22 = .ok (.aload_n 0, 1) := by decide +kernel
theorem dX12_movesFrom_23 : decode cX12_movesFrom 23 = .ok (.iload 4, 2) := by decide +kernel
theorem dX12_movesFrom_25 : decode cX12_movesFrom 25 = .ok (.invokevirtual 487, 3) := by decide +kernel
theorem dX12_movesFrom_28 : decode cX12_movesFrom 28 = .ok (.ifCond .ne 6, 3) := by decide +kernel
theorem dX12_movesFrom_31 : decode cX12_movesFrom 31 = .ok (.goto 119, 3) := by decide +kernel
theorem dX12_movesFrom_34 : decode cX12_movesFrom 34 = .ok (.aload_n 0, 1) := by decide +kernel
theorem dX12_movesFrom_35 : decode cX12_movesFrom 35 = .ok (.getfield 99, 3) := by decide +kernel
theorem dX12_movesFrom_38 : decode cX12_movesFrom 38 = .ok (.iload 4, 2) := by decide +kernel
theorem dX12_movesFrom_40 : decode cX12_movesFrom 40 = .ok (.laload, 1) := by decide +kernel
theorem dX12_movesFrom_41 : decode cX12_movesFrom 41 = .ok (.iload_n 1, 1) := by decide +kernel
theorem dX12_movesFrom_42 : decode cX12_movesFrom 42 = .ok (.invokestatic 330, 3) := by decide +kernel
theorem dX12_movesFrom_45 : decode cX12_movesFrom 45 = .ok (.ifCond .eq 15, 3) := by decide +kernel
theorem dX12_movesFrom_48 : decode cX12_movesFrom 48 = .ok (.lload_n 2, 1) := by decide +kernel
theorem dX12_movesFrom_49 : decode cX12_movesFrom 49 = .ok (.lconst 1, 1) := by decide +kernel
theorem dX12_movesFrom_50 : decode cX12_movesFrom 50 = .ok (.aload_n 0, 1) := by decide +kernel
theorem dX12_movesFrom_51 : decode cX12_movesFrom 51 = .ok (.getfield 66, 3) := by decide +kernel
theorem dX12_movesFrom_54 : decode cX12_movesFrom 54 = .ok (.iload 4, 2) := by decide +kernel
theorem dX12_movesFrom_56 : decode cX12_movesFrom 56 = .ok (.iaload, 1) := by decide +kernel
theorem dX12_movesFrom_57 : decode cX12_movesFrom 57 = .ok (.lshl, 1) := by decide +kernel
theorem dX12_movesFrom_58 : decode cX12_movesFrom 58 = .ok (.lor, 1) := by decide +kernel
theorem dX12_movesFrom_59 : decode cX12_movesFrom 59 = .ok (.lstore_n 2, 1) := by decide +kernel
theorem dX12_movesFrom_60 : decode cX12_movesFrom 60 = .ok (.aload_n 0, 1) := by decide +kernel
theorem dX12_movesFrom_61 : decode cX12_movesFrom 61 = .ok (.getfield 66, 3) := by decide +kernel
theorem dX12_movesFrom_64 : decode cX12_movesFrom 64 = .ok (.iload 4, 2) := by decide +kernel
theorem dX12_movesFrom_66 : decode cX12_movesFrom 66 = .ok (.iaload, 1) := by decide +kernel
theorem dX12_movesFrom_67 : decode cX12_movesFrom 67 = .ok (.iload_n 1, 1) := by decide +kernel
theorem dX12_movesFrom_68 : decode cX12_movesFrom 68 = .ok (.if_icmp .eq 6, 3) := by decide +kernel
theorem dX12_movesFrom_71 : decode cX12_movesFrom 71 = .ok (.goto 79, 3) := by decide +kernel
theorem dX12_movesFrom_74 : decode cX12_movesFrom 74 = .ok (.lload_n 2, 1) := by decide +kernel
theorem dX12_movesFrom_75 : decode cX12_movesFrom 75 = .ok (.aload_n 0, 1) := by decide +kernel
theorem dX12_movesFrom_76 : decode cX12_movesFrom 76 = .ok (.getfield 99, 3) := by decide +kernel
theorem dX12_movesFrom_79 : decode cX12_movesFrom 79 = .ok (.iload 4, 2) := by decide +kernel
theorem dX12_movesFrom_81 : decode cX12_movesFrom 81 = .ok (.laload, 1) := by decide +kernel
theorem dX12_movesFrom_82 : decode cX12_movesFrom 82 = .ok (.lor, 1) := by decide +kernel
theorem dX12_movesFrom_83 : decode cX12_movesFrom 83 = .ok (.lstore_n 2, 1) := by decide +kernel
theorem dX12_movesFrom_84 : decode cX12_movesFrom 84 = .ok (.iconst 0, 1) := by decide +kernel
theorem dX12_movesFrom_85 : decode cX12_movesFrom 85 = .ok (.istore 5, 2) := by decide +kernel
theorem dX12_movesFrom_87 : decode cX12_movesFrom 87 = .ok (.iload 5, 2) := by decide +kernel
theorem dX12_movesFrom_89 : decode cX12_movesFrom 89 = .ok (.aload_n 0, 1) := by decide +kernel
theorem dX12_movesFrom_90 : decode cX12_movesFrom 90 = .ok (.getfield 409, 3) := by decide +kernel
theorem dX12_movesFrom_93 : decode cX12_movesFrom 93 = .ok (.if_icmp .ge 57, 3) := by decide +kernel
theorem dX12_movesFrom_96 : decode cX12_movesFrom 96 = .ok (.iload 5, 2) := by decide +kernel
theorem dX12_movesFrom_98 : decode cX12_movesFrom 98 = .ok (.iload 4, 2) := by decide +kernel
theorem dX12_movesFrom_100 : decode cX12_movesFrom 100 = .ok (.if_icmp .eq 44, 3) := by decide +kernel
theorem dX12_movesFrom_103 : decode cX12_movesFrom 103 = .ok (.aload_n 0, 1) := by decide +kernel
theorem dX12_movesFrom_104 : decode cX12_movesFrom 104 = .ok (.iload 5, 2) := by decide +kernel
theorem dX12_movesFrom_106 : decode cX12_movesFrom 106 = .ok (.invokevirtual 487, 3) := by decide +kernel
theorem dX12_movesFrom_109 : decode cX12_movesFrom 109 = .ok (.ifCond .eq 35, 3) := by decide +kernel
theorem dX12_movesFrom_112 : decode cX12_movesFrom 112 = .ok (.aload_n 0, 1) := by decide +kernel
theorem dX12_movesFrom_113 : decode cX12_movesFrom 113 = .ok (.getfield 99, 3) := by decide +kernel
theorem dX12_movesFrom_116 : decode cX12_movesFrom 116 = .ok (.iload 5, 2) := by decide +kernel
theorem dX12_movesFrom_118 : decode cX12_movesFrom 118 = .ok (.laload, 1) := by decide +kernel
theorem dX12_movesFrom_119 : decode cX12_movesFrom 119 = .ok (.aload_n 0, 1) := by decide +kernel
theorem dX12_movesFrom_120 : decode cX12_movesFrom 120 = .ok (.getfield 99, 3) := by decide +kernel
theorem dX12_movesFrom_123 : decode cX12_movesFrom 123 = .ok (.iload 4, 2) := by decide +kernel
theorem dX12_movesFrom_125 : decode cX12_movesFrom 125 = .ok (.laload, 1) := by decide +kernel
theorem dX12_movesFrom_126 : decode cX12_movesFrom 126 = .ok (.land, 1) := by decide +kernel
theorem dX12_movesFrom_127 : decode cX12_movesFrom 127 = .ok (.lconst 0, 1) := by decide +kernel
theorem dX12_movesFrom_128 : decode cX12_movesFrom 128 = .ok (.lcmp, 1) := by decide +kernel
theorem dX12_movesFrom_129 : decode cX12_movesFrom 129 = .ok (.ifCond .eq 15, 3) := by decide +kernel
theorem dX12_movesFrom_132 : decode cX12_movesFrom 132 = .ok (.lload_n 2, 1) := by decide +kernel
theorem dX12_movesFrom_133 : decode cX12_movesFrom 133 = .ok (.lconst 1, 1) := by decide +kernel
theorem dX12_movesFrom_134 : decode cX12_movesFrom 134 = .ok (.aload_n 0, 1) := by decide +kernel
theorem dX12_movesFrom_135 : decode cX12_movesFrom 135 = .ok (.getfield 66, 3) := by decide +kernel
theorem dX12_movesFrom_138 : decode cX12_movesFrom 138 = .ok (.iload 5, 2) := by decide +kernel
theorem dX12_movesFrom_140 : decode cX12_movesFrom 140 = .ok (.iaload, 1) := by decide +kernel
theorem dX12_movesFrom_141 : decode cX12_movesFrom 141 = .ok (.lshl, 1) := by decide +kernel
theorem dX12_movesFrom_142 : decode cX12_movesFrom 142 = .ok (.lor, 1) := by decide +kernel
theorem dX12_movesFrom_143 : decode cX12_movesFrom 143 = .ok (.lstore_n 2, 1) := by decide +kernel
theorem dX12_movesFrom_144 : decode cX12_movesFrom 144 = .ok (.iinc 5 1, 3) := by decide +kernel
theorem dX12_movesFrom_147 : decode cX12_movesFrom 147 = .ok (.goto (-60), 3) := by decide +kernel
theorem dX12_movesFrom_150 : decode cX12_movesFrom 150 = .ok (.iinc 4 1, 3) := by decide +kernel
theorem dX12_movesFrom_153 : decode cX12_movesFrom 153 = .ok (.goto (-140), 3) := by decide +kernel
theorem dX12_movesFrom_156 : decode cX12_movesFrom 156 = .ok (.lload_n 2, 1) := by decide +kernel
theorem dX12_movesFrom_157 : decode cX12_movesFrom 157 = .ok (.lreturn, 1) := by decide +kernel
theorem dX12_layMoves_0 : decode cX12_layMoves 0 = .ok (.aload_n 0, 1) := by decide +kernel
theorem dX12_layMoves_1 : decode cX12_layMoves 1 = .ok (.invokevirtual 490, 3) := by decide +kernel
theorem dX12_layMoves_4 : decode cX12_layMoves 4 = .ok (.iconst 0, 1) := by decide +kernel
theorem dX12_layMoves_5 : decode cX12_layMoves 5 = .ok (.istore_n 2, 1) := by decide +kernel
theorem dX12_layMoves_6 : decode cX12_layMoves 6 = .ok (.iload_n 2, 1) := by decide +kernel
theorem dX12_layMoves_7 : decode cX12_layMoves 7 = .ok (.aload_n 0, 1) := by decide +kernel
theorem dX12_layMoves_8 : decode cX12_layMoves 8 = .ok (.getfield 90, 3) := by decide +kernel
theorem dX12_layMoves_11 : decode cX12_layMoves 11 = .ok (.aload_n 0, 1) := by decide +kernel
theorem dX12_layMoves_12 : decode cX12_layMoves 12 = .ok (.getfield 93, 3) := by decide +kernel
theorem dX12_layMoves_15 : decode cX12_layMoves 15 = .ok (.imul, 1) := by decide +kernel
theorem dX12_layMoves_16 : decode cX12_layMoves 16 = .ok (.if_icmp .ge 40, 3) := by decide +kernel
theorem dX12_layMoves_19 : decode cX12_layMoves 19 = .ok (.aload_n 0, 1) := by decide +kernel
theorem dX12_layMoves_20 : decode cX12_layMoves 20 = .ok (.getfield 102, 3) := by decide +kernel
theorem dX12_layMoves_23 : decode cX12_layMoves 23 = .ok (.bipush 64, 2) := by decide +kernel
theorem dX12_layMoves_25 : decode cX12_layMoves 25 = .ok (.iload_n 1, 1) := by decide +kernel
theorem dX12_layMoves_26 : decode cX12_layMoves 26 = .ok (.imul, 1) := by decide +kernel
theorem dX12_layMoves_27 : decode cX12_layMoves 27 = .ok (.iload_n 2, 1) := by decide +kernel
theorem dX12_layMoves_28 : decode cX12_layMoves 28 = .ok (.iadd, 1) := by decide +kernel
theorem dX12_layMoves_29 : decode cX12_layMoves 29 = .ok (.aload_n 0, 1) := by decide +kernel
theorem dX12_layMoves_30 : decode cX12_layMoves 30 = .ok (.getfield 403, 3) := by decide +kernel
theorem dX12_layMoves_33 : decode cX12_layMoves 33 = .ok (.iload_n 2, 1) := by decide +kernel
theorem dX12_layMoves_34 : decode cX12_layMoves 34 = .ok (.invokestatic 330, 3) := by decide +kernel
theorem dX12_layMoves_37 : decode cX12_layMoves 37 = .ok (.ifCond .eq 7, 3) := by decide +kernel
theorem dX12_layMoves_40 : decode cX12_layMoves 40 = .ok (.lconst 0, 1) := by decide +kernel
theorem dX12_layMoves_41 : decode cX12_layMoves 41 = .ok (.goto 8, 3) := by decide +kernel
theorem dX12_layMoves_44 : decode cX12_layMoves 44 = .ok (.aload_n 0, 1) := by decide +kernel
theorem dX12_layMoves_45 : decode cX12_layMoves 45 = .ok (.iload_n 2, 1) := by decide +kernel
theorem dX12_layMoves_46 : decode cX12_layMoves 46 = .ok (.invokevirtual 493, 3) := by decide +kernel
theorem dX12_layMoves_49 : decode cX12_layMoves 49 = .ok (.lastore, 1) := by decide +kernel
theorem dX12_layMoves_50 : decode cX12_layMoves 50 = .ok (.iinc 2 1, 3) := by decide +kernel
theorem dX12_layMoves_53 : decode cX12_layMoves 53 = .ok (.goto (-47), 3) := by decide +kernel
theorem dX12_layMoves_56 : decode cX12_layMoves 56 = .ok (.return_, 1) := by decide +kernel
theorem dX12_layHours_0 : decode cX12_layHours 0 = .ok (.iconst 0, 1) := by decide +kernel
theorem dX12_layHours_1 : decode cX12_layHours 1 = .ok (.istore_n 3, 1) := by decide +kernel
theorem dX12_layHours_2 : decode cX12_layHours 2 = .ok (.iload_n 3, 1) := by decide +kernel
theorem dX12_layHours_3 : decode cX12_layHours 3 = .ok (.iload_n 2, 1) := by decide +kernel
theorem dX12_layHours_4 : decode cX12_layHours 4 = .ok (.if_icmp .ge 21, 3) := by decide +kernel
theorem dX12_layHours_7 : decode cX12_layHours 7 = .ok (.aload_n 0, 1) := by decide +kernel
theorem dX12_layHours_8 : decode cX12_layHours 8 = .ok (.iload_n 1, 1) := by decide +kernel
theorem dX12_layHours_9 : decode cX12_layHours 9 = .ok (.iload_n 3, 1) := by decide +kernel
theorem dX12_layHours_10 : decode cX12_layHours 10 = .ok (.iadd, 1) := by decide +kernel
theorem dX12_layHours_11 : decode cX12_layHours 11 = .ok (.invokevirtual 496, 3) := by decide +kernel
theorem dX12_layHours_14 : decode cX12_layHours 14 = .ok (.aload_n 0, 1) := by decide +kernel
theorem dX12_layHours_15 : decode cX12_layHours 15 = .ok (.iload_n 3, 1) := by decide +kernel
theorem dX12_layHours_16 : decode cX12_layHours 16 = .ok (.invokevirtual 499, 3) := by decide +kernel
theorem dX12_layHours_19 : decode cX12_layHours 19 = .ok (.iinc 3 1, 3) := by decide +kernel
theorem dX12_layHours_22 : decode cX12_layHours 22 = .ok (.goto (-20), 3) := by decide +kernel
theorem dX12_layHours_25 : decode cX12_layHours 25 = .ok (.return_, 1) := by decide +kernel
theorem dX12_goOn_0 : decode cX12_goOn 0 = .ok (.lconst 0, 1) := by decide +kernel
theorem dX12_goOn_1 : decode cX12_goOn 1 = .ok (.lstore 4, 2) := by decide +kernel
theorem dX12_goOn_3 : decode cX12_goOn 3 = .ok (.iconst 0, 1) := by decide +kernel
theorem dX12_goOn_4 : decode cX12_goOn 4 = .ok (.istore 6, 2) := by decide +kernel
theorem dX12_goOn_6 : decode cX12_goOn 6 = .ok (.iload 6, 2) := by decide +kernel
theorem dX12_goOn_8 : decode cX12_goOn 8 = .ok (.aload_n 0, 1) := by decide +kernel
theorem dX12_goOn_9 : decode cX12_goOn 9 = .ok (.getfield 90, 3) := by decide +kernel
theorem dX12_goOn_12 : decode cX12_goOn 12 = .ok (.aload_n 0, 1) := by decide +kernel
theorem dX12_goOn_13 : decode cX12_goOn 13 = .ok (.getfield 93, 3) := by decide +kernel
theorem dX12_goOn_16 : decode cX12_goOn 16 = .ok (.imul, 1) := by decide +kernel
theorem dX12_goOn_17 : decode cX12_goOn 17 = .ok (.if_icmp .ge 35, 3) := by decide +kernel
theorem dX12_goOn_20 : decode cX12_goOn 20 = .ok (.lload_n 1, 1) := by decide +kernel
theorem dX12_goOn_21 : decode cX12_goOn 21 = .ok (.iload 6, 2) := by decide +kernel
theorem dX12_goOn_23 : decode cX12_goOn 23 = .ok (.invokestatic 330, 3) := by decide +kernel
theorem dX12_goOn_26 : decode cX12_goOn 26 = .ok (.ifCond .eq 20, 3) := by decide +kernel
theorem dX12_goOn_29 : decode cX12_goOn 29 = .ok (.lload 4, 2) := by decide +kernel
theorem dX12_goOn_31 : decode cX12_goOn 31 = .ok (.aload_n 0, 1) := by decide +kernel
theorem dX12_goOn_32 : decode cX12_goOn 32 = .ok (.getfield 102, 3) := by decide +kernel
theorem dX12_goOn_35 : decode cX12_goOn 35 = .ok (.bipush 64, 2) := by decide +kernel
theorem dX12_goOn_37 : decode cX12_goOn 37 = .ok (.iload_n 3, 1) := by decide +kernel
theorem dX12_goOn_38 : decode cX12_goOn 38 = .ok (.imul, 1) := by decide +kernel
theorem dX12_goOn_39 : decode cX12_goOn 39 = .ok (.iload 6, 2) := by decide +kernel
theorem dX12_goOn_41 : decode cX12_goOn 41 = .ok (.iadd, 1) := by decide +kernel
theorem dX12_goOn_42 : decode cX12_goOn 42 = .ok (.laload, 1) := by decide +kernel
theorem dX12_goOn_43 : decode cX12_goOn 43 = .ok (.lor, 1) := by decide +kernel
theorem dX12_goOn_44 : decode cX12_goOn 44 = .ok (.lstore 4, 2) := by decide +kernel
theorem dX12_goOn_46 : decode cX12_goOn 46 = .ok (.iinc 6 1, 3) := by decide +kernel
theorem dX12_goOn_49 : decode cX12_goOn 49 = .ok (.goto (-43), 3) := by decide +kernel
theorem dX12_goOn_52 : decode cX12_goOn 52 = .ok (.lload 4, 2) := by decide +kernel
theorem dX12_goOn_54 : decode cX12_goOn 54 = .ok (.lreturn, 1) := by decide +kernel
theorem dX12_door_0 : decode cX12_door 0 = .ok (.aload_n 0, 1) := by decide +kernel
theorem dX12_door_1 : decode cX12_door 1 = .ok (.iload_n 1, 1) := by decide +kernel
theorem dX12_door_2 : decode cX12_door 2 = .ok (.invokevirtual 502, 3) := by decide +kernel
theorem dX12_door_5 : decode cX12_door 5 = .ok (.ifCond .ne 5, 3) := by decide +kernel
theorem dX12_door_8 : decode cX12_door 8 = .ok (.iconst (-1), 1) := by decide +kernel
theorem dX12_door_9 : decode cX12_door 9 = .ok (.ireturn, 1) := by decide +kernel
theorem dX12_door_10 : decode cX12_door 10 = .ok (.aload_n 0, 1) := by decide +kernel
theorem dX12_door_11 : decode cX12_door 11 = .ok (.iconst 0, 1) := by decide +kernel
theorem dX12_door_12 : decode cX12_door 12 = .ok (.invokevirtual 505, 3) := by decide +kernel
theorem dX12_door_15 : decode cX12_door 15 = .ok (.iload_n 2, 1) := by decide +kernel
theorem dX12_door_16 : decode cX12_door 16 = .ok (.tableswitch 66 0 3 #[32, 39, 46, 55], 32) := by decide +kernel
theorem dX12_door_48 : decode cX12_door 48 = .ok (.aload_n 0, 1) := by decide +kernel
theorem dX12_door_49 : decode cX12_door 49 = .ok (.getfield 66, 3) := by decide +kernel
theorem dX12_door_52 : decode cX12_door 52 = .ok (.iload_n 1, 1) := by decide +kernel
theorem dX12_door_53 : decode cX12_door 53 = .ok (.iaload, 1) := by decide +kernel
theorem dX12_door_54 : decode cX12_door 54 = .ok (.ireturn, 1) := by decide +kernel
theorem dX12_door_55 : decode cX12_door 55 = .ok (.aload_n 0, 1) := by decide +kernel
theorem dX12_door_56 : decode cX12_door 56 = .ok (.getfield 69, 3) := by decide +kernel
theorem dX12_door_59 : decode cX12_door 59 = .ok (.iload_n 1, 1) := by decide +kernel
theorem dX12_door_60 : decode cX12_door 60 = .ok (.iaload, 1) := by decide +kernel
theorem dX12_door_61 : decode cX12_door 61 = .ok (.ireturn, 1) := by decide +kernel
theorem dX12_door_62 : decode cX12_door 62 = .ok (.aload_n 0, 1) := by decide +kernel
theorem dX12_door_63 : decode cX12_door 63 = .ok (.iload_n 1, 1) := by decide +kernel
theorem dX12_door_64 : decode cX12_door 64 = .ok (.invokevirtual 487, 3) := by decide +kernel
theorem dX12_door_67 : decode cX12_door 67 = .ok (.invokestatic 313, 3) := by decide +kernel
theorem dX12_door_70 : decode cX12_door 70 = .ok (.ireturn, 1) := by decide +kernel
theorem dX12_door_71 : decode cX12_door 71 = .ok (.aload_n 0, 1) := by decide +kernel
theorem dX12_door_72 : decode cX12_door 72 = .ok (.getfield 96, 3) := by decide +kernel
theorem dX12_door_75 : decode cX12_door 75 = .ok (.iconst 5, 1) := by decide +kernel
theorem dX12_door_76 : decode cX12_door 76 = .ok (.iaload, 1) := by decide +kernel
theorem dX12_door_77 : decode cX12_door 77 = .ok (.iload_n 1, 1) := by decide +kernel
theorem dX12_door_78 : decode cX12_door 78 = .ok (.ishr, 1) := by decide +kernel
theorem dX12_door_79 : decode cX12_door 79 = .ok (.iconst 1, 1) := by decide +kernel
theorem dX12_door_80 : decode cX12_door 80 = .ok (.iand, 1) := by decide +kernel
theorem dX12_door_81 : decode cX12_door 81 = .ok (.ireturn, 1) := by decide +kernel
theorem dX12_door_82 : decode cX12_door 82 = .ok (.iconst (-1), 1) := by decide +kernel
theorem dX12_door_83 : decode cX12_door 83 = .ok (.ireturn, 1) := by decide +kernel
theorem dX12_lamp_0 : decode cX12_lamp 0 = .ok (.aload_n 0, 1) := by decide +kernel
theorem dX12_lamp_1 : decode cX12_lamp 1 = .ok (.iload_n 1, 1) := by decide +kernel
theorem dX12_lamp_2 : decode cX12_lamp 2 = .ok (.invokevirtual 508, 3) := by decide +kernel
theorem dX12_lamp_5 : decode cX12_lamp 5 = .ok (.ifCond .ne 5, 3) := by decide +kernel
theorem dX12_lamp_8 : decode cX12_lamp 8 = .ok (.iconst (-1), 1) := by decide +kernel
theorem dX12_lamp_9 : decode cX12_lamp 9 = .ok (.ireturn, 1) := by decide +kernel
theorem dX12_lamp_10 : decode cX12_lamp 10 = .ok (.aload_n 0, 1) := by decide +kernel
theorem dX12_lamp_11 : decode cX12_lamp 11 = .ok (.iconst 0, 1) := by decide +kernel
theorem dX12_lamp_12 : decode cX12_lamp 12 = .ok (.invokevirtual 505, 3) := by decide +kernel
theorem dX12_lamp_15 : decode cX12_lamp 15 = .ok (.iload_n 2, 1) := by decide +kernel
theorem dX12_lamp_16 : decode cX12_lamp 16 = .ok (.ifCond .ne 12, 3) := by decide +kernel
theorem dX12_lamp_19 : decode cX12_lamp 19 = .ok (.aload_n 0, 1) := by decide +kernel
theorem dX12_lamp_20 : decode cX12_lamp 20 = .ok (.getfield 78, 3) := by decide +kernel
theorem dX12_lamp_23 : decode cX12_lamp 23 = .ok (.iload_n 1, 1) := by decide +kernel
theorem dX12_lamp_24 : decode cX12_lamp 24 = .ok (.iaload, 1) := by decide +kernel
theorem dX12_lamp_25 : decode cX12_lamp 25 = .ok (.goto 39, 3) := by decide +kernel
theorem dX12_lamp_28 : decode cX12_lamp 28 = .ok (.iload_n 2, 1) := by decide +kernel
theorem dX12_lamp_29 : decode cX12_lamp 29 = .ok (.iconst 1, 1) := by decide +kernel
theorem dX12_lamp_30 : decode cX12_lamp 30 = .ok (.if_icmp .ne 14, 3) := by decide +kernel
theorem dX12_lamp_33 : decode cX12_lamp 33 = .ok (.aload_n 0, 1) := by decide +kernel
theorem dX12_lamp_34 : decode cX12_lamp 34 = .ok (.iload_n 1, 1) := by decide +kernel
theorem dX12_lamp_35 : decode cX12_lamp 35 = .ok (.invokevirtual 473, 3) := by decide +kernel
theorem dX12_lamp_38 : decode cX12_lamp 38 = .ok (.invokestatic 313, 3) := by decide +kernel
theorem dX12_lamp_41 : decode cX12_lamp 41 = .ok (.goto 23, 3) := by decide +kernel
theorem dX12_lamp_44 : decode cX12_lamp 44 = .ok (.iload_n 2, 1) := by decide +kernel
theorem dX12_lamp_45 : decode cX12_lamp 45 = .ok (.iconst 2, 1) := by decide +kernel
theorem dX12_lamp_46 : decode cX12_lamp 46 = .ok (.if_icmp .ne 17, 3) := by decide +kernel
theorem dX12_lamp_49 : decode cX12_lamp 49 = .ok (.aload_n 0, 1) := by decide +kernel
theorem dX12_lamp_50 : decode cX12_lamp 50 = .ok (.getfield 96, 3) := by decide +kernel
theorem dX12_lamp_53 : decode cX12_lamp 53 = .ok (.bipush 6, 2) := by decide +kernel
theorem dX12_lamp_55 : decode cX12_lamp 55 = .ok (.iaload, 1) := by decide +kernel
theorem dX12_lamp_56 : decode cX12_lamp 56 = .ok (.iload_n 1, 1) := by decide +kernel
theorem dX12_lamp_57 : decode cX12_lamp 57 = .ok (.ishr, 1) := by decide +kernel
theorem dX12_lamp_58 : decode cX12_lamp 58 = .ok (.iconst 1, 1) := by decide +kernel
theorem dX12_lamp_59 : decode cX12_lamp 59 = .ok (.iand, 1) := by decide +kernel
theorem dX12_lamp_60 : decode cX12_lamp 60 = .ok (.goto 4, 3) := by decide +kernel
theorem dX12_lamp_63 : decode cX12_lamp 63 = .ok (.iconst (-1), 1) := by decide +kernel
theorem dX12_lamp_64 : decode cX12_lamp 64 = .ok (.ireturn, 1) := by decide +kernel
theorem dX12_person_0 : decode cX12_person 0 = .ok (.aload_n 0, 1) := by decide +kernel
theorem dX12_person_1 : decode cX12_person 1 = .ok (.iload_n 1, 1) := by decide +kernel
theorem dX12_person_2 : decode cX12_person 2 = .ok (.invokevirtual 511, 3) := by decide +kernel
theorem dX12_person_5 : decode cX12_person 5 = .ok (.ifCond .ne 7, 3) := by decide +kernel
theorem dX12_person_8 : decode cX12_person 8 = .ok (.iconst (-1), 1) := by decide +kernel
theorem dX12_person_9 : decode cX12_person 9 = .ok (.goto 35, 3) := by decide +kernel
theorem dX12_person_12 : decode cX12_person 12 = .ok (.iload_n 2, 1) := by decide +kernel
theorem dX12_person_13 : decode cX12_person 13 = .ok (.ifCond .ne 12, 3) := by decide +kernel
theorem dX12_person_16 : decode cX12_person 16 = .ok (.aload_n 0, 1) := by decide +kernel
theorem dX12_person_17 : decode cX12_person 17 = .ok (.getfield 96, 3) := by decide +kernel
theorem dX12_person_20 : decode cX12_person 20 = .ok (.iload_n 1, 1) := by decide +kernel
theorem dX12_person_21 : decode cX12_person 21 = .ok (.iaload, 1) := by decide +kernel
theorem dX12_person_22 : decode cX12_person 22 = .ok (.goto 22, 3) := by decide +kernel
theorem dX12_person_25 : decode cX12_person 25 = .ok (.iload_n 2, 1) := by decide +kernel
theorem dX12_person_26 : decode cX12_person 26 = .ok (.iconst 1, 1) := by decide +kernel
theorem dX12_person_27 : decode cX12_person 27 = .ok (.if_icmp .ne 16, 3) := by decide +kernel
theorem dX12_person_30 : decode cX12_person 30 = .ok (.aload_n 0, 1) := by decide +kernel
theorem dX12_person_31 : decode cX12_person 31 = .ok (.getfield 96, 3) := by decide +kernel
theorem dX12_person_34 : decode cX12_person 34 = .ok (.iconst 4, 1) := by decide +kernel
theorem dX12_person_35 : decode cX12_person 35 = .ok (.iaload, 1) := by decide +kernel
theorem dX12_person_36 : decode cX12_person 36 = .ok (.iload_n 1, 1) := by decide +kernel
theorem dX12_person_37 : decode cX12_person 37 = .ok (.ishr, 1) := by decide +kernel
theorem dX12_person_38 : decode cX12_person 38 = .ok (.iconst 1, 1) := by decide +kernel
theorem dX12_person_39 : decode cX12_person 39 = .ok (.iand, 1) := by decide +kernel
theorem dX12_person_40 : decode cX12_person 40 = .ok (.goto 4, 3) := by decide +kernel
theorem dX12_person_43 : decode cX12_person 43 = .ok (.iconst (-1), 1) := by decide +kernel
theorem dX12_person_44 : decode cX12_person 44 = .ok (.ireturn, 1) := by decide +kernel
theorem dX12_shade_0 : decode cX12_shade 0 = .ok (.aload_n 0, 1) := by decide +kernel
theorem dX12_shade_1 : decode cX12_shade 1 = .ok (.iload_n 1, 1) := by decide +kernel
theorem dX12_shade_2 : decode cX12_shade 2 = .ok (.invokevirtual 502, 3) := by decide +kernel
theorem dX12_shade_5 : decode cX12_shade 5 = .ok (.ifCond .eq 10, 3) := by decide +kernel
theorem dX12_shade_8 : decode cX12_shade 8 = .ok (.iload_n 2, 1) := by decide +kernel
theorem dX12_shade_9 : decode cX12_shade 9 = .ok (.invokestatic 514, 3) := by decide +kernel
theorem dX12_shade_12 : decode cX12_shade 12 = .ok (.ifCond .ne 7, 3) := by decide +kernel
theorem dX12_shade_15 : decode cX12_shade 15 = .ok (.ldc_w 517, 3) := by decide +kernel
theorem dX12_shade_18 : decode cX12_shade 18 = .ok (.ireturn, 1) := by decide +kernel
theorem dX12_shade_19 : decode cX12_shade 19 = .ok (.aload_n 0, 1) := by decide +kernel
theorem dX12_shade_20 : decode cX12_shade 20 = .ok (.iload_n 2, 1) := by decide +kernel
theorem dX12_shade_21 : decode cX12_shade 21 = .ok (.invokevirtual 505, 3) := by decide +kernel
theorem dX12_shade_24 : decode cX12_shade 24 = .ok (.aload_n 0, 1) := by decide +kernel
theorem dX12_shade_25 : decode cX12_shade 25 = .ok (.aload_n 0, 1) := by decide +kernel
theorem dX12_shade_26 : decode cX12_shade 26 = .ok (.getfield 69, 3) := by decide +kernel
theorem dX12_shade_29 : decode cX12_shade 29 = .ok (.iload_n 1, 1) := by decide +kernel
theorem dX12_shade_30 : decode cX12_shade 30 = .ok (.iaload, 1) := by decide +kernel
theorem dX12_shade_31 : decode cX12_shade 31 = .ok (.aload_n 0, 1) := by decide +kernel
theorem dX12_shade_32 : decode cX12_shade 32 = .ok (.getfield 440, 3) := by decide +kernel
theorem dX12_shade_35 : decode cX12_shade 35 = .ok (.aload_n 0, 1) := by decide +kernel
theorem dX12_shade_36 : decode cX12_shade 36 = .ok (.getfield 443, 3) := by decide +kernel
theorem dX12_shade_39 : decode cX12_shade 39 = .ok (.invokevirtual 467, 3) := by decide +kernel
theorem dX12_shade_42 : decode cX12_shade 42 = .ok (.ireturn, 1) := by decide +kernel
theorem dX12_shadow_0 : decode cX12_shadow 0 = .ok (.aload_n 0, 1) := by decide +kernel
theorem dX12_shadow_1 : decode cX12_shadow 1 = .ok (.iload_n 1, 1) := by decide +kernel
theorem dX12_shadow_2 : decode cX12_shadow 2 = .ok (.invokevirtual 502, 3) := by decide +kernel
theorem dX12_shadow_5 : decode cX12_shadow 5 = .ok (.ifCond .eq 10, 3) := by decide +kernel
theorem dX12_shadow_8 : decode cX12_shadow 8 = .ok (.iload_n 2, 1) := by decide +kernel
theorem dX12_shadow_9 : decode cX12_shadow 9 = .ok (.invokestatic 514, 3) := by decide +kernel
theorem dX12_shadow_12 : decode cX12_shadow 12 = .ok (.ifCond .ne 5, 3) := by decide +kernel
theorem dX12_shadow_15 : decode cX12_shadow 15 = .ok (.lconst 0, 1) := by decide +kernel
theorem dX12_shadow_16 : decode cX12_shadow 16 = .ok (.lreturn, 1) := by decide +kernel
theorem dX12_shadow_17 : decode cX12_shadow 17 = .ok (.aload_n 0, 1) := by decide +kernel
theorem dX12_shadow_18 : decode cX12_shadow 18 = .ok (.iload_n 2, 1) := by decide +kernel
theorem dX12_shadow_19 : decode cX12_shadow 19 = .ok (.invokevirtual 505, 3) := by decide +kernel
theorem dX12_shadow_22 : decode cX12_shadow 22 = .ok (.aload_n 0, 1) := by decide +kernel
theorem dX12_shadow_23 : decode cX12_shadow 23 = .ok (.iload_n 1, 1) := by decide +kernel
theorem dX12_shadow_24 : decode cX12_shadow 24 = .ok (.invokevirtual 480, 3) := by decide +kernel
theorem dX12_shadow_27 : decode cX12_shadow 27 = .ok (.lreturn, 1) := by decide +kernel
theorem dX12_shades_0 : decode cX12_shades 0 = .ok (.iload_n 1, 1) := by decide +kernel
theorem dX12_shades_1 : decode cX12_shades 1 = .ok (.invokestatic 514, 3) := by decide +kernel
theorem dX12_shades_4 : decode cX12_shades 4 = .ok (.ifCond .ne 5, 3) := by decide +kernel
theorem dX12_shades_7 : decode cX12_shades 7 = .ok (.lconst 0, 1) := by decide +kernel
theorem dX12_shades_8 : decode cX12_shades 8 = .ok (.lreturn, 1) := by decide +kernel
theorem dX12_shades_9 : decode cX12_shades 9 = .ok (.aload_n 0, 1) := by decide +kernel
theorem dX12_shades_10 : decode cX12_shades 10 = .ok (.iload_n 1, 1) := by decide +kernel
theorem dX12_shades_11 : decode cX12_shades 11 = .ok (.invokevirtual 505, 3) := by decide +kernel
theorem dX12_shades_14 : decode cX12_shades 14 = .ok (.aload_n 0, 1) := by decide +kernel
theorem dX12_shades_15 : decode cX12_shades 15 = .ok (.invokevirtual 490, 3) := by decide +kernel
theorem dX12_shades_18 : decode cX12_shades 18 = .ok (.lconst 0, 1) := by decide +kernel
theorem dX12_shades_19 : decode cX12_shades 19 = .ok (.lstore_n 3, 1) := by decide +kernel
theorem dX12_shades_20 : decode cX12_shades 20 = .ok (.iconst 0, 1) := by decide +kernel
theorem dX12_shades_21 : decode cX12_shades 21 = .ok (.istore 5, 2) := by decide +kernel
theorem dX12_shades_23 : decode cX12_shades 23 = .ok (.iload 5, 2) := by decide +kernel
theorem dX12_shades_25 : decode cX12_shades 25 = .ok (.aload_n 0, 1) := by decide +kernel
theorem dX12_shades_26 : decode cX12_shades 26 = .ok (.getfield 409, 3) := by decide +kernel
theorem dX12_shades_29 : decode cX12_shades 29 = .ok (.if_icmp .ge 32, 3) := by decide +kernel
theorem dX12_shades_32 : decode cX12_shades 32 = .ok (.iload_n 2, 1) := by decide +kernel
theorem dX12_shades_33 : decode cX12_shades 33 = .ok (.ifCond .eq 12, 3) := by decide +kernel
theorem dX12_shades_36 : decode cX12_shades 36 = .ok (.aload_n 0, 1) := by decide +kernel
theorem dX12_shades_37 : decode cX12_shades 37 = .ok (.iload 5, 2) := by decide +kernel
theorem dX12_shades_39 : decode cX12_shades 39 = .ok (.invokevirtual 487, 3) := by decide +kernel
theorem dX12_shades_42 : decode cX12_shades 42 = .ok (.ifCond .eq 13, 3) := by decide +kernel
theorem dX12_shades_45 : decode cX12_shades 45 = .ok (.lload_n 3, 1) := by decide +kernel
theorem dX12_shades_46 : decode cX12_shades 46 = .ok (.aload_n 0, 1) := by decide +kernel
theorem dX12_shades_47 : decode cX12_shades 47 = .ok (.getfield 99, 3) := by decide +kernel
theorem dX12_shades_50 : decode cX12_shades 50 = .ok (.iload 5, 2) := by decide +kernel
theorem dX12_shades_52 : decode cX12_shades 52 = .ok (.laload, 1) := by decide +kernel
theorem dX12_shades_53 : decode cX12_shades 53 = .ok (.lor, 1) := by decide +kernel
theorem dX12_shades_54 : decode cX12_shades 54 = .ok (.lstore_n 3, 1) := by decide +kernel
theorem dX12_shades_55 : decode cX12_shades 55 = .ok (.iinc 5 1, 3) := by decide +kernel
theorem dX12_shades_58 : decode cX12_shades 58 = .ok (.goto (-35), 3) := by decide +kernel
theorem dX12_shades_61 : decode cX12_shades 61 = .ok (.lload_n 3, 1) := by decide +kernel
theorem dX12_shades_62 : decode cX12_shades 62 = .ok (.lreturn, 1) := by decide +kernel
theorem dX12_moves_0 : decode cX12_moves 0 = .ok (.aload_n 0, 1) := by decide +kernel
theorem dX12_moves_1 : decode cX12_moves 1 = .ok (.iload_n 1, 1) := by decide +kernel
theorem dX12_moves_2 : decode cX12_moves 2 = .ok (.invokevirtual 518, 3) := by decide +kernel
theorem dX12_moves_5 : decode cX12_moves 5 = .ok (.ifCond .eq 10, 3) := by decide +kernel
theorem dX12_moves_8 : decode cX12_moves 8 = .ok (.iload_n 2, 1) := by decide +kernel
theorem dX12_moves_9 : decode cX12_moves 9 = .ok (.invokestatic 514, 3) := by decide +kernel
theorem dX12_moves_12 : decode cX12_moves 12 = .ok (.ifCond .ne 5, 3) := by decide +kernel
theorem dX12_moves_15 : decode cX12_moves 15 = .ok (.lconst 0, 1) := by decide +kernel
theorem dX12_moves_16 : decode cX12_moves 16 = .ok (.lreturn, 1) := by decide +kernel
theorem dX12_moves_17 : decode cX12_moves 17 = .ok (.aload_n 0, 1) := by decide +kernel
theorem dX12_moves_18 : decode cX12_moves 18 = .ok (.iload_n 2, 1) := by decide +kernel
theorem dX12_moves_19 : decode cX12_moves 19 = .ok (.invokevirtual 505, 3) := by decide +kernel
theorem dX12_moves_22 : decode cX12_moves 22 = .ok (.aload_n 0, 1) := by decide +kernel
theorem dX12_moves_23 : decode cX12_moves 23 = .ok (.invokevirtual 490, 3) := by decide +kernel
theorem dX12_moves_26 : decode cX12_moves 26 = .ok (.aload_n 0, 1) := by decide +kernel
theorem dX12_moves_27 : decode cX12_moves 27 = .ok (.iload_n 1, 1) := by decide +kernel
theorem dX12_moves_28 : decode cX12_moves 28 = .ok (.invokevirtual 493, 3) := by decide +kernel
theorem dX12_moves_31 : decode cX12_moves 31 = .ok (.lreturn, 1) := by decide +kernel
theorem dX12_act_0 : decode cX12_act 0 = .ok (.aload_n 0, 1) := by decide +kernel
theorem dX12_act_1 : decode cX12_act 1 = .ok (.getfield 424, 3) := by decide +kernel
theorem dX12_act_4 : decode cX12_act 4 = .ok (.bipush 40, 2) := by decide +kernel
theorem dX12_act_6 : decode cX12_act 6 = .ok (.if_icmp .ne 43, 3) := by decide +kernel
theorem dX12_act_9 : decode cX12_act 9 = .ok (.iconst 0, 1) := by decide +kernel
theorem dX12_act_10 : decode cX12_act 10 = .ok (.istore_n 1, 1) := by decide +kernel
theorem dX12_act_11 : decode cX12_act 11 = .ok (.iload_n 1, 1) := by decide +kernel
theorem dX12_act_12 : decode cX12_act 12 = .ok (.sipush 390, 3) := by decide +kernel
theorem dX12_act_15 : decode cX12_act 15 = .ok (.if_icmp .ge 24, 3) := by decide +kernel
theorem dX12_act_18 : decode cX12_act 18 = .ok (.aload_n 0, 1) := by decide +kernel
theorem dX12_act_19 : decode cX12_act 19 = .ok (.getfield 105, 3) := by decide +kernel
theorem dX12_act_22 : decode cX12_act 22 = .ok (.iload_n 1, 1) := by decide +kernel
theorem dX12_act_23 : decode cX12_act 23 = .ok (.aload_n 0, 1) := by decide +kernel
theorem dX12_act_24 : decode cX12_act 24 = .ok (.getfield 105, 3) := by decide +kernel
theorem dX12_act_27 : decode cX12_act 27 = .ok (.bipush 10, 2) := by decide +kernel
theorem dX12_act_29 : decode cX12_act 29 = .ok (.iload_n 1, 1) := by decide +kernel
theorem dX12_act_30 : decode cX12_act 30 = .ok (.iadd, 1) := by decide +kernel
theorem dX12_act_31 : decode cX12_act 31 = .ok (.iaload, 1) := by decide +kernel
theorem dX12_act_32 : decode cX12_act 32 = .ok (.iastore, 1) := by decide +kernel
theorem dX12_act_33 : decode cX12_act 33 = .ok (.iinc 1 1, 3) := by decide +kernel
theorem dX12_act_36 : decode cX12_act 36 = .ok (.goto (-25), 3) := by decide +kernel
theorem dX12_act_39 : decode cX12_act 39 = .ok (.aload_n 0, 1) := by decide +kernel
theorem dX12_act_40 : decode cX12_act 40 = .ok (.dup, 1) := by decide +kernel
theorem dX12_act_41 : decode cX12_act 41 = .ok (.getfield 424, 3) := by decide +kernel
theorem dX12_act_44 : decode cX12_act 44 = .ok (.iconst 1, 1) := by decide +kernel
theorem dX12_act_45 : decode cX12_act 45 = .ok (.isub, 1) := by decide +kernel
theorem dX12_act_46 : decode cX12_act 46 = .ok (.putfield 424, 3) := by decide +kernel
theorem dX12_act_49 : decode cX12_act 49 = .ok (.iconst 0, 1) := by decide +kernel
theorem dX12_act_50 : decode cX12_act 50 = .ok (.istore_n 1, 1) := by decide +kernel
theorem dX12_act_51 : decode cX12_act 51 = .ok (.iload_n 1, 1) := by decide +kernel
theorem dX12_act_52 : decode cX12_act 52 = .ok (.bipush 9, 2) := by decide +kernel
theorem dX12_act_54 : decode cX12_act 54 = .ok (.if_icmp .ge 29, 3) := by decide +kernel
theorem dX12_act_57 : decode cX12_act 57 = .ok (.aload_n 0, 1) := by decide +kernel
theorem dX12_act_58 : decode cX12_act 58 = .ok (.getfield 105, 3) := by decide +kernel
theorem dX12_act_61 : decode cX12_act 61 = .ok (.bipush 10, 2) := by decide +kernel
theorem dX12_act_63 : decode cX12_act 63 = .ok (.aload_n 0, 1) := by decide +kernel
theorem dX12_act_64 : decode cX12_act 64 = .ok (.getfield 424, 3) := by decide +kernel
theorem dX12_act_67 : decode cX12_act 67 = .ok (.imul, 1) := by decide +kernel
theorem dX12_act_68 : decode cX12_act 68 = .ok (.iload_n 1, 1) := by decide +kernel
theorem dX12_act_69 : decode cX12_act 69 = .ok (.iadd, 1) := by decide +kernel
theorem dX12_act_70 : decode cX12_act 70 = .ok (.aload_n 0, 1) := by decide +kernel
theorem dX12_act_71 : decode cX12_act 71 = .ok (.getfield 96, 3) := by decide +kernel
theorem dX12_act_74 : decode cX12_act 74 = .ok (.iload_n 1, 1) := by decide +kernel
theorem dX12_act_75 : decode cX12_act 75 = .ok (.iaload, 1) := by decide +kernel
theorem dX12_act_76 : decode cX12_act 76 = .ok (.iastore, 1) := by decide +kernel
theorem dX12_act_77 : decode cX12_act 77 = .ok (.iinc 1 1, 3) := by decide +kernel
theorem dX12_act_80 : decode cX12_act 80 = .ok (.goto (-29), 3) := by decide +kernel
theorem dX12_act_83 : decode cX12_act 83 = .ok (.aload_n 0, 1) := by decide +kernel
theorem dX12_act_84 : decode cX12_act 84 = .ok (.dup, 1) := by decide +kernel
theorem dX12_act_85 : decode cX12_act 85 = .ok (.getfield 424, 3) := by decide +kernel
theorem dX12_act_88 : decode cX12_act 88 = .ok (.iconst 1, 1) := by decide +kernel
theorem dX12_act_89 : decode cX12_act 89 = .ok (.iadd, 1) := by decide +kernel
theorem dX12_act_90 : decode cX12_act 90 = .ok (.putfield 424, 3) := by decide +kernel
theorem dX12_act_93 : decode cX12_act 93 = .ok (.aload_n 0, 1) := by decide +kernel
theorem dX12_act_94 : decode cX12_act 94 = .ok (.iconst 0, 1) := by decide +kernel
theorem dX12_act_95 : decode cX12_act 95 = .ok (.putfield 427, 3) := by decide +kernel
theorem dX12_act_98 : decode cX12_act 98 = .ok (.return_, 1) := by decide +kernel
theorem dX12_exchange_0 : decode cX12_exchange 0 = .ok (.iconst 0, 1) := by decide +kernel
theorem dX12_exchange_1 : decode cX12_exchange 1 = .ok (.istore_n 2, 1) := by decide +kernel
theorem dX12_exchange_2 : decode cX12_exchange 2 = .ok (.iload_n 2, 1) := by decide +kernel
theorem dX12_exchange_3 : decode cX12_exchange 3 = .ok (.bipush 9, 2) := by decide +kernel
theorem dX12_exchange_5 : decode cX12_exchange 5 = .ok (.if_icmp .ge 39, 3) := by decide +kernel
theorem dX12_exchange_8 : decode cX12_exchange 8 = .ok (.aload_n 0, 1) := by decide +kernel
theorem dX12_exchange_9 : decode cX12_exchange 9 = .ok (.getfield 105, 3) := by decide +kernel
theorem dX12_exchange_12 : decode cX12_exchange 12 = .ok (.iload_n 1, 1) := by decide +kernel
theorem dX12_exchange_13 : decode cX12_exchange 13 = .ok (.iload_n 2, 1) := by decide +kernel
theorem dX12_exchange_14 : decode cX12_exchange 14 = .ok (.iadd, 1) := by decide +kernel
theorem dX12_exchange_15 : decode cX12_exchange 15 = .ok (.iaload, 1) := by decide +kernel
theorem dX12_exchange_16 : decode cX12_exchange 16 = .ok (.istore_n 3, 1) := by decide +kernel
theorem dX12_exchange_17 : decode cX12_exchange 17 = .ok (.aload_n 0, 1) := by decide +kernel
theorem dX12_exchange_18 : decode cX12_exchange 18 = .ok (.getfield 105, 3) := by decide +kernel
theorem dX12_exchange_21 : decode cX12_exchange 21 = .ok (.iload_n 1, 1) := by decide +kernel
theorem dX12_exchange_22 : decode cX12_exchange 22 = .ok (.iload_n 2, 1) := by decide +kernel
theorem dX12_exchange_23 : decode cX12_exchange 23 = .ok (.iadd, 1) := by decide +kernel
theorem dX12_exchange_24 : decode cX12_exchange 24 = .ok (.aload_n 0, 1) := by decide +kernel
theorem dX12_exchange_25 : decode cX12_exchange 25 = .ok (.getfield 96, 3) := by decide +kernel
theorem dX12_exchange_28 : decode cX12_exchange 28 = .ok (.iload_n 2, 1) := by decide +kernel
theorem dX12_exchange_29 : decode cX12_exchange 29 = .ok (.iaload, 1) := by decide +kernel
theorem dX12_exchange_30 : decode cX12_exchange 30 = .ok (.iastore, 1) := by decide +kernel
theorem dX12_exchange_31 : decode cX12_exchange 31 = .ok (.aload_n 0, 1) := by decide +kernel
theorem dX12_exchange_32 : decode cX12_exchange 32 = .ok (.getfield 96, 3) := by decide +kernel
theorem dX12_exchange_35 : decode cX12_exchange 35 = .ok (.iload_n 2, 1) := by decide +kernel
theorem dX12_exchange_36 : decode cX12_exchange 36 = .ok (.iload_n 3, 1) := by decide +kernel
theorem dX12_exchange_37 : decode cX12_exchange 37 = .ok (.iastore, 1) := by decide +kernel
theorem dX12_exchange_38 : decode cX12_exchange 38 = .ok (.iinc 2 1, 3) := by decide +kernel
theorem dX12_exchange_41 : decode cX12_exchange 41 = .ok (.goto (-39), 3) := by decide +kernel
theorem dX12_exchange_44 : decode cX12_exchange 44 = .ok (.return_, 1) := by decide +kernel
theorem dX12_go_0 : decode cX12_go 0 = .ok (.aload_n 0, 1) := by decide +kernel
theorem dX12_go_1 : decode cX12_go 1 = .ok (.iload_n 1, 1) := by decide +kernel
theorem dX12_go_2 : decode cX12_go 2 = .ok (.invokevirtual 511, 3) := by decide +kernel
theorem dX12_go_5 : decode cX12_go 5 = .ok (.ifCond .eq 25, 3) := by decide +kernel
theorem dX12_go_8 : decode cX12_go 8 = .ok (.aload_n 0, 1) := by decide +kernel
theorem dX12_go_9 : decode cX12_go 9 = .ok (.iload_n 2, 1) := by decide +kernel
theorem dX12_go_10 : decode cX12_go 10 = .ok (.invokevirtual 518, 3) := by decide +kernel
theorem dX12_go_13 : decode cX12_go 13 = .ok (.ifCond .eq 17, 3) := by decide +kernel
theorem dX12_go_16 : decode cX12_go 16 = .ok (.aload_n 0, 1) := by decide +kernel
theorem dX12_go_17 : decode cX12_go 17 = .ok (.getfield 96, 3) := by decide +kernel
theorem dX12_go_20 : decode cX12_go 20 = .ok (.iconst 4, 1) := by decide +kernel
theorem dX12_go_21 : decode cX12_go 21 = .ok (.iaload, 1) := by decide +kernel
theorem dX12_go_22 : decode cX12_go 22 = .ok (.iload_n 1, 1) := by decide +kernel
theorem dX12_go_23 : decode cX12_go 23 = .ok (.ishr, 1) := by decide +kernel
theorem dX12_go_24 : decode cX12_go 24 = .ok (.iconst 1, 1) := by decide +kernel
theorem dX12_go_25 : decode cX12_go 25 = .ok (.iand, 1) := by decide +kernel
theorem dX12_go_26 : decode cX12_go 26 = .ok (.iconst 1, 1) := by decide +kernel
theorem dX12_go_27 : decode cX12_go 27 = .ok (.if_icmp .ne 5, 3) := by decide +kernel
theorem dX12_go_30 : decode cX12_go 30 = .ok (.iconst (-1), 1) := by decide +kernel
theorem dX12_go_31 : decode cX12_go 31 = .ok (.ireturn, 1) := by decide +kernel
theorem dX12_go_32 : decode cX12_go 32 = .ok (.aload_n 0, 1) := by decide +kernel
theorem dX12_go_33 : decode cX12_go 33 = .ok (.iconst 0, 1) := by decide +kernel
theorem dX12_go_34 : decode cX12_go 34 = .ok (.invokevirtual 505, 3) := by decide +kernel
theorem dX12_go_37 : decode cX12_go 37 = .ok (.aload_n 0, 1) := by decide +kernel
theorem dX12_go_38 : decode cX12_go 38 = .ok (.invokevirtual 490, 3) := by decide +kernel
theorem dX12_go_41 : decode cX12_go 41 = .ok (.aload_n 0, 1) := by decide +kernel
theorem dX12_go_42 : decode cX12_go 42 = .ok (.getfield 96, 3) := by decide +kernel
theorem dX12_go_45 : decode cX12_go 45 = .ok (.iload_n 1, 1) := by decide +kernel
theorem dX12_go_46 : decode cX12_go 46 = .ok (.iaload, 1) := by decide +kernel
theorem dX12_go_47 : decode cX12_go 47 = .ok (.istore_n 3, 1) := by decide +kernel
theorem dX12_go_48 : decode cX12_go 48 = .ok (.aload_n 0, 1) := by decide +kernel
theorem dX12_go_49 : decode cX12_go 49 = .ok (.iload_n 3, 1) := by decide +kernel
theorem dX12_go_50 : decode cX12_go 50 = .ok (.invokevirtual 493, 3) := by decide +kernel
theorem dX12_go_53 : decode cX12_go 53 = .ok (.iload_n 2, 1) := by decide +kernel
theorem dX12_go_54 : decode cX12_go 54 = .ok (.invokestatic 330, 3) := by decide +kernel
theorem dX12_go_57 : decode cX12_go 57 = .ok (.ifCond .ne 5, 3) := by decide +kernel
theorem dX12_go_60 : decode cX12_go 60 = .ok (.iconst (-1), 1) := by decide +kernel
theorem dX12_go_61 : decode cX12_go 61 = .ok (.ireturn, 1) := by decide +kernel
theorem dX12_go_62 : decode cX12_go 62 = .ok (.aload_n 0, 1) := by decide +kernel
theorem dX12_go_63 : decode cX12_go 63 = .ok (.invokevirtual 521, 3) := by decide +kernel
theorem dX12_go_66 : decode cX12_go 66 = .ok (.aload_n 0, 1) := by decide +kernel
theorem dX12_go_67 : decode cX12_go 67 = .ok (.getfield 96, 3) := by decide +kernel
theorem dX12_go_70 : decode cX12_go 70 = .ok (.iload_n 1, 1) := by decide +kernel
theorem dX12_go_71 : decode cX12_go 71 = .ok (.iload_n 2, 1) := by decide +kernel
theorem dX12_go_72 : decode cX12_go 72 = .ok (.iastore, 1) := by decide +kernel
theorem dX12_go_73 : decode cX12_go 73 = .ok (.aload_n 0, 1) := by decide +kernel
theorem dX12_go_74 : decode cX12_go 74 = .ok (.getfield 96, 3) := by decide +kernel
theorem dX12_go_77 : decode cX12_go 77 = .ok (.iconst 4, 1) := by decide +kernel
theorem dX12_go_78 : decode cX12_go 78 = .ok (.dup2, 1) := by decide +kernel
theorem dX12_go_79 : decode cX12_go 79 = .ok (.iaload, 1) := by decide +kernel
theorem dX12_go_80 : decode cX12_go 80 = .ok (.iconst 1, 1) := by decide +kernel
theorem dX12_go_81 : decode cX12_go 81 = .ok (.iload_n 1, 1) := by decide +kernel
theorem dX12_go_82 : decode cX12_go 82 = .ok (.ishl, 1) := by decide +kernel
theorem dX12_go_83 : decode cX12_go 83 = .ok (.ior, 1) := by decide +kernel
theorem dX12_go_84 : decode cX12_go 84 = .ok (.iastore, 1) := by decide +kernel
theorem dX12_go_85 : decode cX12_go 85 = .ok (.iload_n 3, 1) := by decide +kernel
theorem dX12_go_86 : decode cX12_go 86 = .ok (.iload_n 2, 1) := by decide +kernel
theorem dX12_go_87 : decode cX12_go 87 = .ok (.if_icmp .ne 7, 3) := by decide +kernel
theorem dX12_go_90 : decode cX12_go 90 = .ok (.iconst 0, 1) := by decide +kernel
theorem dX12_go_91 : decode cX12_go 91 = .ok (.goto 20, 3) := by decide +kernel
theorem dX12_go_94 : decode cX12_go 94 = .ok (.aload_n 0, 1) := by decide +kernel
theorem dX12_go_95 : decode cX12_go 95 = .ok (.iload_n 3, 1) := by decide +kernel
theorem dX12_go_96 : decode cX12_go 96 = .ok (.invokevirtual 484, 3) := by decide +kernel
theorem dX12_go_99 : decode cX12_go 99 = .ok (.iload_n 2, 1) := by decide +kernel
theorem dX12_go_100 : decode cX12_go 100 = .ok (.invokestatic 330, 3) := by decide +kernel
theorem dX12_go_103 : decode cX12_go 103 = .ok (.ifCond .eq 7, 3) := by decide +kernel
theorem dX12_go_106 : decode cX12_go 106 = .ok (.iconst 1, 1) := by decide +kernel
theorem dX12_go_107 : decode cX12_go 107 = .ok (.goto 4, 3) := by decide +kernel
theorem dX12_go_110 : decode cX12_go 110 = .ok (.iconst 2, 1) := by decide +kernel
theorem dX12_go_111 : decode cX12_go 111 = .ok (.ireturn, 1) := by decide +kernel
theorem dX12_hour_0 : decode cX12_hour 0 = .ok (.aload_n 0, 1) := by decide +kernel
theorem dX12_hour_1 : decode cX12_hour 1 = .ok (.getfield 96, 3) := by decide +kernel
theorem dX12_hour_4 : decode cX12_hour 4 = .ok (.bipush 8, 2) := by decide +kernel
theorem dX12_hour_6 : decode cX12_hour 6 = .ok (.iaload, 1) := by decide +kernel
theorem dX12_hour_7 : decode cX12_hour 7 = .ok (.sipush 2000, 3) := by decide +kernel
theorem dX12_hour_10 : decode cX12_hour 10 = .ok (.if_icmp .ne 5, 3) := by decide +kernel
theorem dX12_hour_13 : decode cX12_hour 13 = .ok (.iconst (-1), 1) := by decide +kernel
theorem dX12_hour_14 : decode cX12_hour 14 = .ok (.ireturn, 1) := by decide +kernel
theorem dX12_hour_15 : decode cX12_hour 15 = .ok (.aload_n 0, 1) := by decide +kernel
theorem dX12_hour_16 : decode cX12_hour 16 = .ok (.invokevirtual 521, 3) := by decide +kernel
theorem dX12_hour_19 : decode cX12_hour 19 = .ok (.aload_n 0, 1) := by decide +kernel
theorem dX12_hour_20 : decode cX12_hour 20 = .ok (.getfield 96, 3) := by decide +kernel
theorem dX12_hour_23 : decode cX12_hour 23 = .ok (.bipush 8, 2) := by decide +kernel
theorem dX12_hour_25 : decode cX12_hour 25 = .ok (.dup2, 1) := by decide +kernel
theorem dX12_hour_26 : decode cX12_hour 26 = .ok (.iaload, 1) := by decide +kernel
theorem dX12_hour_27 : decode cX12_hour 27 = .ok (.iconst 1, 1) := by decide +kernel
theorem dX12_hour_28 : decode cX12_hour 28 = .ok (.iadd, 1) := by decide +kernel
theorem dX12_hour_29 : decode cX12_hour 29 = .ok (.iastore, 1) := by decide +kernel
theorem dX12_hour_30 : decode cX12_hour 30 = .ok (.aload_n 0, 1) := by decide +kernel
theorem dX12_hour_31 : decode cX12_hour 31 = .ok (.getfield 96, 3) := by decide +kernel
theorem dX12_hour_34 : decode cX12_hour 34 = .ok (.iconst 4, 1) := by decide +kernel
theorem dX12_hour_35 : decode cX12_hour 35 = .ok (.iconst 0, 1) := by decide +kernel
theorem dX12_hour_36 : decode cX12_hour 36 = .ok (.iastore, 1) := by decide +kernel
theorem dX12_hour_37 : decode cX12_hour 37 = .ok (.aload_n 0, 1) := by decide +kernel
theorem dX12_hour_38 : decode cX12_hour 38 = .ok (.getfield 96, 3) := by decide +kernel
theorem dX12_hour_41 : decode cX12_hour 41 = .ok (.bipush 8, 2) := by decide +kernel
theorem dX12_hour_43 : decode cX12_hour 43 = .ok (.iaload, 1) := by decide +kernel
theorem dX12_hour_44 : decode cX12_hour 44 = .ok (.ireturn, 1) := by decide +kernel
theorem dX12_shut_0 : decode cX12_shut 0 = .ok (.aload_n 0, 1) := by decide +kernel
theorem dX12_shut_1 : decode cX12_shut 1 = .ok (.iload_n 1, 1) := by decide +kernel
theorem dX12_shut_2 : decode cX12_shut 2 = .ok (.invokevirtual 502, 3) := by decide +kernel
theorem dX12_shut_5 : decode cX12_shut 5 = .ok (.ifCond .ne 5, 3) := by decide +kernel
theorem dX12_shut_8 : decode cX12_shut 8 = .ok (.iconst (-1), 1) := by decide +kernel
theorem dX12_shut_9 : decode cX12_shut 9 = .ok (.ireturn, 1) := by decide +kernel
theorem dX12_shut_10 : decode cX12_shut 10 = .ok (.aload_n 0, 1) := by decide +kernel
theorem dX12_shut_11 : decode cX12_shut 11 = .ok (.invokevirtual 521, 3) := by decide +kernel
theorem dX12_shut_14 : decode cX12_shut 14 = .ok (.aload_n 0, 1) := by decide +kernel
theorem dX12_shut_15 : decode cX12_shut 15 = .ok (.getfield 96, 3) := by decide +kernel
theorem dX12_shut_18 : decode cX12_shut 18 = .ok (.iconst 5, 1) := by decide +kernel
theorem dX12_shut_19 : decode cX12_shut 19 = .ok (.dup2, 1) := by decide +kernel
theorem dX12_shut_20 : decode cX12_shut 20 = .ok (.iaload, 1) := by decide +kernel
theorem dX12_shut_21 : decode cX12_shut 21 = .ok (.iconst 1, 1) := by decide +kernel
theorem dX12_shut_22 : decode cX12_shut 22 = .ok (.iload_n 1, 1) := by decide +kernel
theorem dX12_shut_23 : decode cX12_shut 23 = .ok (.ishl, 1) := by decide +kernel
theorem dX12_shut_24 : decode cX12_shut 24 = .ok (.ixor, 1) := by decide +kernel
theorem dX12_shut_25 : decode cX12_shut 25 = .ok (.iastore, 1) := by decide +kernel
theorem dX12_shut_26 : decode cX12_shut 26 = .ok (.aload_n 0, 1) := by decide +kernel
theorem dX12_shut_27 : decode cX12_shut 27 = .ok (.getfield 96, 3) := by decide +kernel
theorem dX12_shut_30 : decode cX12_shut 30 = .ok (.iconst 5, 1) := by decide +kernel
theorem dX12_shut_31 : decode cX12_shut 31 = .ok (.iaload, 1) := by decide +kernel
theorem dX12_shut_32 : decode cX12_shut 32 = .ok (.iload_n 1, 1) := by decide +kernel
theorem dX12_shut_33 : decode cX12_shut 33 = .ok (.ishr, 1) := by decide +kernel
theorem dX12_shut_34 : decode cX12_shut 34 = .ok (.iconst 1, 1) := by decide +kernel
theorem dX12_shut_35 : decode cX12_shut 35 = .ok (.iand, 1) := by decide +kernel
theorem dX12_shut_36 : decode cX12_shut 36 = .ok (.ireturn, 1) := by decide +kernel
theorem dX12_out_0 : decode cX12_out 0 = .ok (.aload_n 0, 1) := by decide +kernel
theorem dX12_out_1 : decode cX12_out 1 = .ok (.iload_n 1, 1) := by decide +kernel
theorem dX12_out_2 : decode cX12_out 2 = .ok (.invokevirtual 508, 3) := by decide +kernel
theorem dX12_out_5 : decode cX12_out 5 = .ok (.ifCond .ne 5, 3) := by decide +kernel
theorem dX12_out_8 : decode cX12_out 8 = .ok (.iconst (-1), 1) := by decide +kernel
theorem dX12_out_9 : decode cX12_out 9 = .ok (.ireturn, 1) := by decide +kernel
theorem dX12_out_10 : decode cX12_out 10 = .ok (.aload_n 0, 1) := by decide +kernel
theorem dX12_out_11 : decode cX12_out 11 = .ok (.invokevirtual 521, 3) := by decide +kernel
theorem dX12_out_14 : decode cX12_out 14 = .ok (.aload_n 0, 1) := by decide +kernel
theorem dX12_out_15 : decode cX12_out 15 = .ok (.getfield 96, 3) := by decide +kernel
theorem dX12_out_18 : decode cX12_out 18 = .ok (.bipush 6, 2) := by decide +kernel
theorem dX12_out_20 : decode cX12_out 20 = .ok (.dup2, 1) := by decide +kernel
theorem dX12_out_21 : decode cX12_out 21 = .ok (.iaload, 1) := by decide +kernel
theorem dX12_out_22 : decode cX12_out 22 = .ok (.iconst 1, 1) := by decide +kernel
theorem dX12_out_23 : decode cX12_out 23 = .ok (.iload_n 1, 1) := by decide +kernel
theorem dX12_out_24 : decode cX12_out 24 = .ok (.ishl, 1) := by decide +kernel
theorem dX12_out_25 : decode cX12_out 25 = .ok (.ixor, 1) := by decide +kernel
theorem dX12_out_26 : decode cX12_out 26 = .ok (.iastore, 1) := by decide +kernel
theorem dX12_out_27 : decode cX12_out 27 = .ok (.aload_n 0, 1) := by decide +kernel
theorem dX12_out_28 : decode cX12_out 28 = .ok (.getfield 96, 3) := by decide +kernel
theorem dX12_out_31 : decode cX12_out 31 = .ok (.bipush 6, 2) := by decide +kernel
theorem dX12_out_33 : decode cX12_out 33 = .ok (.iaload, 1) := by decide +kernel
theorem dX12_out_34 : decode cX12_out 34 = .ok (.iload_n 1, 1) := by decide +kernel
theorem dX12_out_35 : decode cX12_out 35 = .ok (.ishr, 1) := by decide +kernel
theorem dX12_out_36 : decode cX12_out 36 = .ok (.iconst 1, 1) := by decide +kernel
theorem dX12_out_37 : decode cX12_out 37 = .ok (.iand, 1) := by decide +kernel
theorem dX12_out_38 : decode cX12_out 38 = .ok (.ireturn, 1) := by decide +kernel
theorem dX12_eclipse_0 : decode cX12_eclipse 0 = .ok (.aload_n 0, 1) := by decide +kernel
theorem dX12_eclipse_1 : decode cX12_eclipse 1 = .ok (.invokevirtual 521, 3) := by decide +kernel
theorem dX12_eclipse_4 : decode cX12_eclipse 4 = .ok (.aload_n 0, 1) := by decide +kernel
theorem dX12_eclipse_5 : decode cX12_eclipse 5 = .ok (.getfield 96, 3) := by decide +kernel
theorem dX12_eclipse_8 : decode cX12_eclipse 8 = .ok (.bipush 7, 2) := by decide +kernel
theorem dX12_eclipse_10 : decode cX12_eclipse 10 = .ok (.iconst 1, 1) := by decide +kernel
theorem dX12_eclipse_11 : decode cX12_eclipse 11 = .ok (.aload_n 0, 1) := by decide +kernel
theorem dX12_eclipse_12 : decode cX12_eclipse 12 = .ok (.getfield 96, 3) := by decide +kernel
theorem dX12_eclipse_15 : decode cX12_eclipse 15 = .ok (.bipush 7, 2) := by decide +kernel
theorem dX12_eclipse_17 : decode cX12_eclipse 17 = .ok (.iaload, 1) := by decide +kernel
theorem dX12_eclipse_18 : decode cX12_eclipse 18 = .ok (.isub, 1) := by decide +kernel
theorem dX12_eclipse_19 : decode cX12_eclipse 19 = .ok (.iastore, 1) := by decide +kernel
theorem dX12_eclipse_20 : decode cX12_eclipse 20 = .ok (.aload_n 0, 1) := by decide +kernel
theorem dX12_eclipse_21 : decode cX12_eclipse 21 = .ok (.getfield 96, 3) := by decide +kernel
theorem dX12_eclipse_24 : decode cX12_eclipse 24 = .ok (.bipush 7, 2) := by decide +kernel
theorem dX12_eclipse_26 : decode cX12_eclipse 26 = .ok (.iaload, 1) := by decide +kernel
theorem dX12_eclipse_27 : decode cX12_eclipse 27 = .ok (.iconst 1, 1) := by decide +kernel
theorem dX12_eclipse_28 : decode cX12_eclipse 28 = .ok (.if_icmp .ne 7, 3) := by decide +kernel
theorem dX12_eclipse_31 : decode cX12_eclipse 31 = .ok (.iconst 1, 1) := by decide +kernel
theorem dX12_eclipse_32 : decode cX12_eclipse 32 = .ok (.goto 4, 3) := by decide +kernel
theorem dX12_eclipse_35 : decode cX12_eclipse 35 = .ok (.iconst 0, 1) := by decide +kernel
theorem dX12_eclipse_36 : decode cX12_eclipse 36 = .ok (.ireturn, 1) := by decide +kernel
theorem dX12_undo_0 : decode cX12_undo 0 = .ok (.aload_n 0, 1) := by decide +kernel
theorem dX12_undo_1 : decode cX12_undo 1 = .ok (.getfield 424, 3) := by decide +kernel
theorem dX12_undo_4 : decode cX12_undo 4 = .ok (.ifCond .ne 5, 3) := by decide +kernel
theorem dX12_undo_7 : decode cX12_undo 7 = .ok (.iconst 0, 1) := by decide +kernel
theorem dX12_undo_8 : decode cX12_undo 8 = .ok (.ireturn, 1) := by decide +kernel
theorem dX12_undo_9 : decode cX12_undo 9 = .ok (.aload_n 0, 1) := by decide +kernel
theorem dX12_undo_10 : decode cX12_undo 10 = .ok (.dup, 1) := by decide +kernel
theorem dX12_undo_11 : decode cX12_undo 11 = .ok (.getfield 424, 3) := by decide +kernel
theorem dX12_undo_14 : decode cX12_undo 14 = .ok (.iconst 1, 1) := by decide +kernel
theorem dX12_undo_15 : decode cX12_undo 15 = .ok (.isub, 1) := by decide +kernel
theorem dX12_undo_16 : decode cX12_undo 16 = .ok (.putfield 424, 3) := by decide +kernel
theorem dX12_undo_19 : decode cX12_undo 19 = .ok (.aload_n 0, 1) := by decide +kernel
theorem dX12_undo_20 : decode cX12_undo 20 = .ok (.dup, 1) := by decide +kernel
theorem dX12_undo_21 : decode cX12_undo 21 = .ok (.getfield 427, 3) := by decide +kernel
theorem dX12_undo_24 : decode cX12_undo 24 = .ok (.iconst 1, 1) := by decide +kernel
theorem dX12_undo_25 : decode cX12_undo 25 = .ok (.iadd, 1) := by decide +kernel
theorem dX12_undo_26 : decode cX12_undo 26 = .ok (.putfield 427, 3) := by decide +kernel
theorem dX12_undo_29 : decode cX12_undo 29 = .ok (.aload_n 0, 1) := by decide +kernel
theorem dX12_undo_30 : decode cX12_undo 30 = .ok (.bipush 10, 2) := by decide +kernel
theorem dX12_undo_32 : decode cX12_undo 32 = .ok (.aload_n 0, 1) := by decide +kernel
theorem dX12_undo_33 : decode cX12_undo 33 = .ok (.getfield 424, 3) := by decide +kernel
theorem dX12_undo_36 : decode cX12_undo 36 = .ok (.imul, 1) := by decide +kernel
theorem dX12_undo_37 : decode cX12_undo 37 = .ok (.invokevirtual 524, 3) := by decide +kernel
theorem dX12_undo_40 : decode cX12_undo 40 = .ok (.iconst 1, 1) := by decide +kernel
theorem dX12_undo_41 : decode cX12_undo 41 = .ok (.ireturn, 1) := by decide +kernel
theorem dX12_redo_0 : decode cX12_redo 0 = .ok (.aload_n 0, 1) := by decide +kernel
theorem dX12_redo_1 : decode cX12_redo 1 = .ok (.getfield 427, 3) := by decide +kernel
theorem dX12_redo_4 : decode cX12_redo 4 = .ok (.ifCond .ne 5, 3) := by decide +kernel
theorem dX12_redo_7 : decode cX12_redo 7 = .ok (.iconst 0, 1) := by decide +kernel
theorem dX12_redo_8 : decode cX12_redo 8 = .ok (.ireturn, 1) := by decide +kernel
theorem dX12_redo_9 : decode cX12_redo 9 = .ok (.aload_n 0, 1) := by decide +kernel
theorem dX12_redo_10 : decode cX12_redo 10 = .ok (.bipush 10, 2) := by decide +kernel
theorem dX12_redo_12 : decode cX12_redo 12 = .ok (.aload_n 0, 1) := by decide +kernel
theorem dX12_redo_13 : decode cX12_redo 13 = .ok (.getfield 424, 3) := by decide +kernel
theorem dX12_redo_16 : decode cX12_redo 16 = .ok (.imul, 1) := by decide +kernel
theorem dX12_redo_17 : decode cX12_redo 17 = .ok (.invokevirtual 524, 3) := by decide +kernel
theorem dX12_redo_20 : decode cX12_redo 20 = .ok (.aload_n 0, 1) := by decide +kernel
theorem dX12_redo_21 : decode cX12_redo 21 = .ok (.dup, 1) := by decide +kernel
theorem dX12_redo_22 : decode cX12_redo 22 = .ok (.getfield 424, 3) := by decide +kernel
theorem dX12_redo_25 : decode cX12_redo 25 = .ok (.iconst 1, 1) := by decide +kernel
theorem dX12_redo_26 : decode cX12_redo 26 = .ok (.iadd, 1) := by decide +kernel
theorem dX12_redo_27 : decode cX12_redo 27 = .ok (.putfield 424, 3) := by decide +kernel
theorem dX12_redo_30 : decode cX12_redo 30 = .ok (.aload_n 0, 1) := by decide +kernel
theorem dX12_redo_31 : decode cX12_redo 31 = .ok (.dup, 1) := by decide +kernel
theorem dX12_redo_32 : decode cX12_redo 32 = .ok (.getfield 427, 3) := by decide +kernel
theorem dX12_redo_35 : decode cX12_redo 35 = .ok (.iconst 1, 1) := by decide +kernel
theorem dX12_redo_36 : decode cX12_redo 36 = .ok (.isub, 1) := by decide +kernel
theorem dX12_redo_37 : decode cX12_redo 37 = .ok (.putfield 427, 3) := by decide +kernel
theorem dX12_redo_40 : decode cX12_redo 40 = .ok (.iconst 1, 1) := by decide +kernel
theorem dX12_redo_41 : decode cX12_redo 41 = .ok (.ireturn, 1) := by decide +kernel
theorem dX12_soonest_0 : decode cX12_soonest 0 = .ok (.aload_n 0, 1) := by decide +kernel
theorem dX12_soonest_1 : decode cX12_soonest 1 = .ok (.iconst 0, 1) := by decide +kernel
theorem dX12_soonest_2 : decode cX12_soonest 2 = .ok (.putfield 433, 3) := by decide +kernel
theorem dX12_soonest_5 : decode cX12_soonest 5 = .ok (.aload_n 0, 1) := by decide +kernel
theorem dX12_soonest_6 : decode cX12_soonest 6 = .ok (.iload_n 1, 1) := by decide +kernel
theorem dX12_soonest_7 : decode cX12_soonest 7 = .ok (.invokevirtual 518, 3) := by decide +kernel
theorem dX12_soonest_10 : decode cX12_soonest 10 = .ok (.ifCond .eq 11, 3) := by decide +kernel
theorem dX12_soonest_13 : decode cX12_soonest 13 = .ok (.aload_n 0, 1) := by decide +kernel
theorem dX12_soonest_14 : decode cX12_soonest 14 = .ok (.iload_n 2, 1) := by decide +kernel
theorem dX12_soonest_15 : decode cX12_soonest 15 = .ok (.invokevirtual 518, 3) := by decide +kernel
theorem dX12_soonest_18 : decode cX12_soonest 18 = .ok (.ifCond .ne 5, 3) := by decide +kernel
theorem dX12_soonest_21 : decode cX12_soonest 21 = .ok (.iconst (-1), 1) := by decide +kernel
theorem dX12_soonest_22 : decode cX12_soonest 22 = .ok (.ireturn, 1) := by decide +kernel
theorem dX12_soonest_23 : decode cX12_soonest 23 = .ok (.aload_n 0, 1) := by decide +kernel
theorem dX12_soonest_24 : decode cX12_soonest 24 = .ok (.iconst 0, 1) := by decide +kernel
theorem dX12_soonest_25 : decode cX12_soonest 25 = .ok (.invokevirtual 505, 3) := by decide +kernel
theorem dX12_soonest_28 : decode cX12_soonest 28 = .ok (.aload_n 0, 1) := by decide +kernel
theorem dX12_soonest_29 : decode cX12_soonest 29 = .ok (.aload_n 0, 1) := by decide +kernel
theorem dX12_soonest_30 : decode cX12_soonest 30 = .ok (.getfield 96, 3) := by decide +kernel
theorem dX12_soonest_33 : decode cX12_soonest 33 = .ok (.bipush 8, 2) := by decide +kernel
theorem dX12_soonest_35 : decode cX12_soonest 35 = .ok (.iaload, 1) := by decide +kernel
theorem dX12_soonest_36 : decode cX12_soonest 36 = .ok (.bipush 48, 2) := by decide +kernel
theorem dX12_soonest_38 : decode cX12_soonest 38 = .ok (.invokevirtual 527, 3) := by decide +kernel
theorem dX12_soonest_41 : decode cX12_soonest 41 = .ok (.lconst 1, 1) := by decide +kernel
theorem dX12_soonest_42 : decode cX12_soonest 42 = .ok (.iload_n 1, 1) := by decide +kernel
theorem dX12_soonest_43 : decode cX12_soonest 43 = .ok (.lshl, 1) := by decide +kernel
theorem dX12_soonest_44 : decode cX12_soonest 44 = .ok (.lstore_n 3, 1) := by decide +kernel
theorem dX12_soonest_45 : decode cX12_soonest 45 = .ok (.iconst 0, 1) := by decide +kernel
theorem dX12_soonest_46 : decode cX12_soonest 46 = .ok (.istore 5, 2) := by decide +kernel
theorem dX12_soonest_48 : decode cX12_soonest 48 = .ok (.lload_n 3, 1) := by decide +kernel
theorem dX12_soonest_49 : decode cX12_soonest 49 = .ok (.iload_n 2, 1) := by decide +kernel
theorem dX12_soonest_50 : decode cX12_soonest 50 = .ok (.invokestatic 330, 3) := by decide +kernel
theorem dX12_soonest_53 : decode cX12_soonest 53 = .ok (.ifCond .ne 24, 3) := by decide +kernel
theorem dX12_soonest_56 : decode cX12_soonest 56 = .ok (.iload 5, 2) := by decide +kernel
theorem dX12_soonest_58 : decode cX12_soonest 58 = .ok (.bipush 48, 2) := by decide +kernel
theorem dX12_soonest_60 : decode cX12_soonest 60 = .ok (.if_icmp .ge 17, 3) := by decide +kernel
theorem dX12_soonest_63 : decode cX12_soonest 63 = .ok (.aload_n 0, 1) := by decide +kernel
theorem dX12_soonest_64 : decode cX12_soonest 64 = .ok (.lload_n 3, 1) := by decide +kernel
theorem dX12_soonest_65 : decode cX12_soonest 65 = .ok (.iload 5, 2) := by decide +kernel
theorem dX12_soonest_67 : decode cX12_soonest 67 = .ok (.invokevirtual 530, 3) := by decide +kernel
theorem dX12_soonest_70 : decode cX12_soonest 70 = .ok (.lstore_n 3, 1) := by decide +kernel
theorem dX12_soonest_71 : decode cX12_soonest 71 = .ok (.iinc 5 1, 3) := by decide +kernel
theorem dX12_soonest_74 : decode cX12_soonest 74 = .ok (.goto (-26), 3) := by decide +kernel
theorem dX12_soonest_77 : decode cX12_soonest 77 = .ok (.lload_n 3, 1) := by decide +kernel
theorem dX12_soonest_78 : decode cX12_soonest 78 = .ok (.iload_n 2, 1) := by decide +kernel
theorem dX12_soonest_79 : decode cX12_soonest 79 = .ok (.invokestatic 330, 3) := by decide +kernel
theorem dX12_soonest_82 : decode cX12_soonest 82 = .ok (.ifCond .ne 5, 3) := by decide +kernel
theorem dX12_soonest_85 : decode cX12_soonest 85 = .ok (.iconst (-1), 1) := by decide +kernel
theorem dX12_soonest_86 : decode cX12_soonest 86 = .ok (.ireturn, 1) := by decide +kernel
theorem dX12_soonest_87 : decode cX12_soonest 87 = .ok (.aload_n 0, 1) := by decide +kernel
theorem dX12_soonest_88 : decode cX12_soonest 88 = .ok (.getfield 111, 3) := by decide +kernel
theorem dX12_soonest_91 : decode cX12_soonest 91 = .ok (.iload 5, 2) := by decide +kernel
theorem dX12_soonest_93 : decode cX12_soonest 93 = .ok (.lconst 1, 1) := by decide +kernel
theorem dX12_soonest_94 : decode cX12_soonest 94 = .ok (.iload_n 2, 1) := by decide +kernel
theorem dX12_soonest_95 : decode cX12_soonest 95 = .ok (.lshl, 1) := by decide +kernel
theorem dX12_soonest_96 : decode cX12_soonest 96 = .ok (.lastore, 1) := by decide +kernel
theorem dX12_soonest_97 : decode cX12_soonest 97 = .ok (.iload 5, 2) := by decide +kernel
theorem dX12_soonest_99 : decode cX12_soonest 99 = .ok (.iconst 1, 1) := by decide +kernel
theorem dX12_soonest_100 : decode cX12_soonest 100 = .ok (.isub, 1) := by decide +kernel
theorem dX12_soonest_101 : decode cX12_soonest 101 = .ok (.istore 6, 2) := by decide +kernel
theorem dX12_soonest_103 : decode cX12_soonest 103 = .ok (.iload 6, 2) := by decide +kernel
theorem dX12_soonest_105 : decode cX12_soonest 105 = .ok (.ifCond .lt 82, 3) := by decide +kernel
theorem dX12_soonest_108 : decode cX12_soonest 108 = .ok (.aload_n 0, 1) := by decide +kernel
theorem dX12_soonest_109 : decode cX12_soonest 109 = .ok (.getfield 111, 3) := by decide +kernel
theorem dX12_soonest_112 : decode cX12_soonest 112 = .ok (.iload 6, 2) := by decide +kernel
theorem dX12_soonest_114 : decode cX12_soonest 114 = .ok (.lconst 0, 1) := by decide +kernel
theorem dX12_soonest_115 : decode cX12_soonest 115 = .ok (.lastore, 1) := by decide +kernel
theorem dX12_soonest_116 : decode cX12_soonest 116 = .ok (.iconst 0, 1) := by decide +kernel
theorem dX12_soonest_117 : decode cX12_soonest 117 = .ok (.istore 7, 2) := by decide +kernel
theorem dX12_soonest_119 : decode cX12_soonest 119 = .ok (.iload 7, 2) := by decide +kernel
theorem dX12_soonest_121 : decode cX12_soonest 121 = .ok (.aload_n 0, 1) := by decide +kernel
theorem dX12_soonest_122 : decode cX12_soonest 122 = .ok (.getfield 90, 3) := by decide +kernel
theorem dX12_soonest_125 : decode cX12_soonest 125 = .ok (.aload_n 0, 1) := by decide +kernel
theorem dX12_soonest_126 : decode cX12_soonest 126 = .ok (.getfield 93, 3) := by decide +kernel
theorem dX12_soonest_129 : decode cX12_soonest 129 = .ok (.imul, 1) := by decide +kernel
theorem dX12_soonest_130 : decode cX12_soonest 130 = .ok (.if_icmp .ge 51, 3) := by decide +kernel
theorem dX12_soonest_133 : decode cX12_soonest 133 = .ok (.aload_n 0, 1) := by decide +kernel
theorem dX12_soonest_134 : decode cX12_soonest 134 = .ok (.getfield 102, 3) := by decide +kernel
theorem dX12_soonest_137 : decode cX12_soonest 137 = .ok (.bipush 64, 2) := by decide +kernel
theorem dX12_soonest_139 : decode cX12_soonest 139 = .ok (.iload 6, 2) := by decide +kernel
theorem dX12_soonest_141 : decode cX12_soonest 141 = .ok (.imul, 1) := by decide +kernel
theorem dX12_soonest_142 : decode cX12_soonest 142 = .ok (.iload 7, 2) := by decide +kernel
theorem dX12_soonest_144 : decode cX12_soonest 144 = .ok (.iadd, 1) := by decide +kernel
theorem dX12_soonest_145 : decode cX12_soonest 145 = .ok (.laload, 1) := by decide +kernel
theorem dX12_soonest_146 : decode cX12_soonest 146 = .ok (.aload_n 0, 1) := by decide +kernel
theorem dX12_soonest_147 : decode cX12_soonest 147 = .ok (.getfield 111, 3) := by decide +kernel
theorem dX12_soonest_150 : decode cX12_soonest 150 = .ok (.iload 6, 2) := by decide +kernel
theorem dX12_soonest_152 : decode cX12_soonest 152 = .ok (.iconst 1, 1) := by decide +kernel
theorem dX12_soonest_153 : decode cX12_soonest 153 = .ok (.iadd, 1) := by decide +kernel
theorem dX12_soonest_154 : decode cX12_soonest 154 = .ok (.laload, 1) := by decide +kernel
theorem dX12_soonest_155 : decode cX12_soonest 155 = .ok (.land, 1) := by decide +kernel
theorem dX12_soonest_156 : decode cX12_soonest 156 = .ok (.lconst 0, 1) := by decide +kernel
theorem dX12_soonest_157 : decode cX12_soonest 157 = .ok (.lcmp, 1) := by decide +kernel
theorem dX12_soonest_158 : decode cX12_soonest 158 = .ok (.ifCond .eq 17, 3) := by decide +kernel
theorem dX12_soonest_161 : decode cX12_soonest 161 = .ok (.aload_n 0, 1) := by decide +kernel
theorem dX12_soonest_162 : decode cX12_soonest 162 = .ok (.getfield 111, 3) := by decide +kernel
theorem dX12_soonest_165 : decode cX12_soonest 165 = .ok (.iload 6, 2) := by decide +kernel
theorem dX12_soonest_167 : decode cX12_soonest 167 = .ok (.dup2, 1) := by decide +kernel
theorem dX12_soonest_168 : decode cX12_soonest 168 = .ok (.laload, 1) := by decide +kernel
theorem dX12_soonest_169 : decode cX12_soonest 169 = .ok (.lconst 1, 1) := by decide +kernel
theorem dX12_soonest_170 : decode cX12_soonest 170 = .ok (.iload 7, 2) := by decide +kernel
theorem dX12_soonest_172 : decode cX12_soonest 172 = .ok (.lshl, 1) := by decide +kernel
theorem dX12_soonest_173 : decode cX12_soonest 173 = .ok (.lor, 1) := by decide +kernel
theorem dX12_soonest_174 : decode cX12_soonest 174 = .ok (.lastore, 1) := by decide +kernel
theorem dX12_soonest_175 : decode cX12_soonest 175 = .ok (.iinc 7 1, 3) := by decide +kernel
theorem dX12_soonest_178 : decode cX12_soonest 178 = .ok (.goto (-59), 3) := by decide +kernel
theorem dX12_soonest_181 : decode cX12_soonest 181 = .ok (.iinc 6 (-1), 3) := by decide +kernel
theorem dX12_soonest_184 : decode cX12_soonest 184 = .ok (.goto (-81), 3) := by decide +kernel
theorem dX12_soonest_187 : decode cX12_soonest 187 = .ok (.iload_n 1, 1) := by decide +kernel
theorem dX12_soonest_188 : decode cX12_soonest 188 = .ok (.istore 6, 2) := by decide +kernel
theorem dX12_soonest_190 : decode cX12_soonest 190 = .ok (.iconst 0, 1) := by decide +kernel
theorem dX12_soonest_191 : decode cX12_soonest 191 = .ok (.istore 7, 2) := by decide +kernel
theorem dX12_soonest_193 : decode cX12_soonest 193 = .ok (.iload 7, 2) := by decide +kernel
theorem dX12_soonest_195 : decode cX12_soonest 195 = .ok (.iload 5, 2) := by decide +kernel
theorem dX12_soonest_197 : decode cX12_soonest 197 = .ok (.if_icmp .ge 46, 3) := by decide +kernel
theorem dX12_soonest_200 : decode cX12_soonest 200 = .ok (.aload_n 0, 1) := by decide +kernel
theorem dX12_soonest_201 : decode cX12_soonest 201 = .ok (.getfield 102, 3) := by decide +kernel
theorem dX12_soonest_204 : decode cX12_soonest 204 = .ok (.bipush 64, 2) := by decide +kernel
theorem dX12_soonest_206 : decode cX12_soonest 206 = .ok (.iload 7, 2) := by decide +kernel
theorem dX12_soonest_208 : decode cX12_soonest 208 = .ok (.imul, 1) := by decide +kernel
theorem dX12_soonest_209 : decode cX12_soonest 209 = .ok (.iload 6, 2) := by decide +kernel
theorem dX12_soonest_211 : decode cX12_soonest 211 = .ok (.iadd, 1) := by decide +kernel
theorem dX12_soonest_212 : decode cX12_soonest 212 = .ok (.laload, 1) := by decide +kernel
theorem dX12_soonest_213 : decode cX12_soonest 213 = .ok (.aload_n 0, 1) := by decide +kernel
theorem dX12_soonest_214 : decode cX12_soonest 214 = .ok (.getfield 111, 3) := by decide +kernel
theorem dX12_soonest_217 : decode cX12_soonest 217 = .ok (.iload 7, 2) := by decide +kernel
theorem dX12_soonest_219 : decode cX12_soonest 219 = .ok (.iconst 1, 1) := by decide +kernel
theorem dX12_soonest_220 : decode cX12_soonest 220 = .ok (.iadd, 1) := by decide +kernel
theorem dX12_soonest_221 : decode cX12_soonest 221 = .ok (.laload, 1) := by decide +kernel
theorem dX12_soonest_222 : decode cX12_soonest 222 = .ok (.land, 1) := by decide +kernel
theorem dX12_soonest_223 : decode cX12_soonest 223 = .ok (.invokestatic 534, 3) := by decide +kernel
theorem dX12_soonest_226 : decode cX12_soonest 226 = .ok (.istore 6, 2) := by decide +kernel
theorem dX12_soonest_228 : decode cX12_soonest 228 = .ok (.aload_n 0, 1) := by decide +kernel
theorem dX12_soonest_229 : decode cX12_soonest 229 = .ok (.getfield 108, 3) := by decide +kernel
theorem dX12_soonest_232 : decode cX12_soonest 232 = .ok (.iload 7, 2) := by decide +kernel
theorem dX12_soonest_234 : decode cX12_soonest 234 = .ok (.iload 6, 2) := by decide +kernel
theorem dX12_soonest_236 : decode cX12_soonest 236 = .ok (.iastore, 1) := by decide +kernel
theorem dX12_soonest_237 : decode cX12_soonest 237 = .ok (.iinc 7 1, 3) := by decide +kernel
theorem dX12_soonest_240 : decode cX12_soonest 240 = .ok (.goto (-47), 3) := by decide +kernel
theorem dX12_soonest_243 : decode cX12_soonest 243 = .ok (.aload_n 0, 1) := by decide +kernel
theorem dX12_soonest_244 : decode cX12_soonest 244 = .ok (.iload 5, 2) := by decide +kernel
theorem dX12_soonest_246 : decode cX12_soonest 246 = .ok (.putfield 433, 3) := by decide +kernel
theorem dX12_soonest_249 : decode cX12_soonest 249 = .ok (.iload 5, 2) := by decide +kernel
theorem dX12_soonest_251 : decode cX12_soonest 251 = .ok (.ireturn, 1) := by decide +kernel
theorem dX12_reachOf_0 : decode cX12_reachOf 0 = .ok (.lconst 1, 1) := by decide +kernel
theorem dX12_reachOf_1 : decode cX12_reachOf 1 = .ok (.iload_n 1, 1) := by decide +kernel
theorem dX12_reachOf_2 : decode cX12_reachOf 2 = .ok (.lshl, 1) := by decide +kernel
theorem dX12_reachOf_3 : decode cX12_reachOf 3 = .ok (.lstore_n 3, 1) := by decide +kernel
theorem dX12_reachOf_4 : decode cX12_reachOf 4 = .ok (.iconst 0, 1) := by decide +kernel
theorem dX12_reachOf_5 : decode cX12_reachOf 5 = .ok (.istore 5, 2) := by decide +kernel
theorem dX12_reachOf_7 : decode cX12_reachOf 7 = .ok (.iload 5, 2) := by decide +kernel
theorem dX12_reachOf_9 : decode cX12_reachOf 9 = .ok (.iload_n 2, 1) := by decide +kernel
theorem dX12_reachOf_10 : decode cX12_reachOf 10 = .ok (.if_icmp .ge 17, 3) := by decide +kernel
theorem dX12_reachOf_13 : decode cX12_reachOf 13 = .ok (.aload_n 0, 1) := by decide +kernel
theorem dX12_reachOf_14 : decode cX12_reachOf 14 = .ok (.lload_n 3, 1) := by decide +kernel
theorem dX12_reachOf_15 : decode cX12_reachOf 15 = .ok (.iload 5, 2) := by decide +kernel
theorem dX12_reachOf_17 : decode cX12_reachOf 17 = .ok (.invokevirtual 530, 3) := by decide +kernel
theorem dX12_reachOf_20 : decode cX12_reachOf 20 = .ok (.lstore_n 3, 1) := by decide +kernel
theorem dX12_reachOf_21 : decode cX12_reachOf 21 = .ok (.iinc 5 1, 3) := by decide +kernel
theorem dX12_reachOf_24 : decode cX12_reachOf 24 = .ok (.goto (-17), 3) := by decide +kernel
theorem dX12_reachOf_27 : decode cX12_reachOf 27 = .ok (.lload_n 3, 1) := by decide +kernel
theorem dX12_reachOf_28 : decode cX12_reachOf 28 = .ok (.lreturn, 1) := by decide +kernel
theorem dX12_reach_0 : decode cX12_reach 0 = .ok (.aload_n 0, 1) := by decide +kernel
theorem dX12_reach_1 : decode cX12_reach 1 = .ok (.iload_n 1, 1) := by decide +kernel
theorem dX12_reach_2 : decode cX12_reach 2 = .ok (.invokevirtual 518, 3) := by decide +kernel
theorem dX12_reach_5 : decode cX12_reach 5 = .ok (.ifCond .eq 10, 3) := by decide +kernel
theorem dX12_reach_8 : decode cX12_reach 8 = .ok (.iload_n 2, 1) := by decide +kernel
theorem dX12_reach_9 : decode cX12_reach 9 = .ok (.invokestatic 514, 3) := by decide +kernel
theorem dX12_reach_12 : decode cX12_reach 12 = .ok (.ifCond .ne 5, 3) := by decide +kernel
theorem dX12_reach_15 : decode cX12_reach 15 = .ok (.lconst 0, 1) := by decide +kernel
theorem dX12_reach_16 : decode cX12_reach 16 = .ok (.lreturn, 1) := by decide +kernel
theorem dX12_reach_17 : decode cX12_reach 17 = .ok (.aload_n 0, 1) := by decide +kernel
theorem dX12_reach_18 : decode cX12_reach 18 = .ok (.iconst 0, 1) := by decide +kernel
theorem dX12_reach_19 : decode cX12_reach 19 = .ok (.invokevirtual 505, 3) := by decide +kernel
theorem dX12_reach_22 : decode cX12_reach 22 = .ok (.aload_n 0, 1) := by decide +kernel
theorem dX12_reach_23 : decode cX12_reach 23 = .ok (.aload_n 0, 1) := by decide +kernel
theorem dX12_reach_24 : decode cX12_reach 24 = .ok (.getfield 96, 3) := by decide +kernel
theorem dX12_reach_27 : decode cX12_reach 27 = .ok (.bipush 8, 2) := by decide +kernel
theorem dX12_reach_29 : decode cX12_reach 29 = .ok (.iaload, 1) := by decide +kernel
theorem dX12_reach_30 : decode cX12_reach 30 = .ok (.iload_n 2, 1) := by decide +kernel
theorem dX12_reach_31 : decode cX12_reach 31 = .ok (.invokevirtual 527, 3) := by decide +kernel
theorem dX12_reach_34 : decode cX12_reach 34 = .ok (.aload_n 0, 1) := by decide +kernel
theorem dX12_reach_35 : decode cX12_reach 35 = .ok (.iload_n 1, 1) := by decide +kernel
theorem dX12_reach_36 : decode cX12_reach 36 = .ok (.iload_n 2, 1) := by decide +kernel
theorem dX12_reach_37 : decode cX12_reach 37 = .ok (.invokevirtual 537, 3) := by decide +kernel
theorem dX12_reach_40 : decode cX12_reach 40 = .ok (.lreturn, 1) := by decide +kernel
theorem dX12_meet_0 : decode cX12_meet 0 = .ok (.aload_n 0, 1) := by decide +kernel
theorem dX12_meet_1 : decode cX12_meet 1 = .ok (.iload_n 1, 1) := by decide +kernel
theorem dX12_meet_2 : decode cX12_meet 2 = .ok (.invokevirtual 511, 3) := by decide +kernel
theorem dX12_meet_5 : decode cX12_meet 5 = .ok (.ifCond .eq 25, 3) := by decide +kernel
theorem dX12_meet_8 : decode cX12_meet 8 = .ok (.aload_n 0, 1) := by decide +kernel
theorem dX12_meet_9 : decode cX12_meet 9 = .ok (.iload_n 2, 1) := by decide +kernel
theorem dX12_meet_10 : decode cX12_meet 10 = .ok (.invokevirtual 511, 3) := by decide +kernel
theorem dX12_meet_13 : decode cX12_meet 13 = .ok (.ifCond .eq 17, 3) := by decide +kernel
theorem dX12_meet_16 : decode cX12_meet 16 = .ok (.iload_n 1, 1) := by decide +kernel
theorem dX12_meet_17 : decode cX12_meet 17 = .ok (.iload_n 2, 1) := by decide +kernel
theorem dX12_meet_18 : decode cX12_meet 18 = .ok (.if_icmp .eq 12, 3) := by decide +kernel
theorem dX12_meet_21 : decode cX12_meet 21 = .ok (.iload_n 3, 1) := by decide +kernel
theorem dX12_meet_22 : decode cX12_meet 22 = .ok (.iconst 0, 1) := by decide +kernel
theorem dX12_meet_23 : decode cX12_meet 23 = .ok (.iconst 1, 1) := by decide +kernel
theorem dX12_meet_24 : decode cX12_meet 24 = .ok (.invokestatic 436, 3) := by decide +kernel
theorem dX12_meet_27 : decode cX12_meet 27 = .ok (.ifCond .ne 5, 3) := by decide +kernel
theorem dX12_meet_30 : decode cX12_meet 30 = .ok (.iconst (-1), 1) := by decide +kernel
theorem dX12_meet_31 : decode cX12_meet 31 = .ok (.ireturn, 1) := by decide +kernel
theorem dX12_meet_32 : decode cX12_meet 32 = .ok (.aload_n 0, 1) := by decide +kernel
theorem dX12_meet_33 : decode cX12_meet 33 = .ok (.iconst 0, 1) := by decide +kernel
theorem dX12_meet_34 : decode cX12_meet 34 = .ok (.invokevirtual 505, 3) := by decide +kernel
theorem dX12_meet_37 : decode cX12_meet 37 = .ok (.aload_n 0, 1) := by decide +kernel
theorem dX12_meet_38 : decode cX12_meet 38 = .ok (.aload_n 0, 1) := by decide +kernel
theorem dX12_meet_39 : decode cX12_meet 39 = .ok (.getfield 96, 3) := by decide +kernel
theorem dX12_meet_42 : decode cX12_meet 42 = .ok (.bipush 8, 2) := by decide +kernel
theorem dX12_meet_44 : decode cX12_meet 44 = .ok (.iaload, 1) := by decide +kernel
theorem dX12_meet_45 : decode cX12_meet 45 = .ok (.bipush 48, 2) := by decide +kernel
theorem dX12_meet_47 : decode cX12_meet 47 = .ok (.invokevirtual 527, 3) := by decide +kernel
theorem dX12_meet_50 : decode cX12_meet 50 = .ok (.lconst 1, 1) := by decide +kernel
theorem dX12_meet_51 : decode cX12_meet 51 = .ok (.aload_n 0, 1) := by decide +kernel
theorem dX12_meet_52 : decode cX12_meet 52 = .ok (.getfield 96, 3) := by decide +kernel
theorem dX12_meet_55 : decode cX12_meet 55 = .ok (.iload_n 1, 1) := by decide +kernel
theorem dX12_meet_56 : decode cX12_meet 56 = .ok (.iaload, 1) := by decide +kernel
theorem dX12_meet_57 : decode cX12_meet 57 = .ok (.lshl, 1) := by decide +kernel
theorem dX12_meet_58 : decode cX12_meet 58 = .ok (.lstore 4, 2) := by decide +kernel
theorem dX12_meet_60 : decode cX12_meet 60 = .ok (.lconst 1, 1) := by decide +kernel
theorem dX12_meet_61 : decode cX12_meet 61 = .ok (.aload_n 0, 1) := by decide +kernel
theorem dX12_meet_62 : decode cX12_meet 62 = .ok (.getfield 96, 3) := by decide +kernel
theorem dX12_meet_65 : decode cX12_meet 65 = .ok (.iload_n 2, 1) := by decide +kernel
theorem dX12_meet_66 : decode cX12_meet 66 = .ok (.iaload, 1) := by decide +kernel
theorem dX12_meet_67 : decode cX12_meet 67 = .ok (.lshl, 1) := by decide +kernel
theorem dX12_meet_68 : decode cX12_meet 68 = .ok (.lstore 6, 2) := by decide +kernel
theorem dX12_meet_70 : decode cX12_meet 70 = .ok (.iconst 0, 1) := by decide +kernel
theorem dX12_meet_71 : decode cX12_meet 71 = .ok (.istore 8, 2) := by decide +kernel
theorem dX12_meet_73 : decode cX12_meet 73 = .ok (.iload 8, 2) := by decide +kernel
theorem dX12_meet_75 : decode cX12_meet 75 = .ok (.bipush 48, 2) := by decide +kernel
theorem dX12_meet_77 : decode cX12_meet 77 = .ok (.if_icmp .gt 66, 3) := by decide +kernel
theorem dX12_meet_80 : decode cX12_meet 80 = .ok (.lload 4, 2) := by decide +kernel
theorem dX12_meet_82 : decode cX12_meet 82 = .ok (.lload 6, 2) := by decide +kernel
theorem dX12_meet_84 : decode cX12_meet 84 = .ok (.land, 1) := by decide +kernel
theorem dX12_meet_85 : decode cX12_meet 85 = .ok (.lconst 0, 1) := by decide +kernel
theorem dX12_meet_86 : decode cX12_meet 86 = .ok (.lcmp, 1) := by decide +kernel
theorem dX12_meet_87 : decode cX12_meet 87 = .ok (.ifCond .eq 21, 3) := by decide +kernel
theorem dX12_meet_90 : decode cX12_meet 90 = .ok (.iload_n 3, 1) := by decide +kernel
theorem dX12_meet_91 : decode cX12_meet 91 = .ok (.ifCond .ne 8, 3) := by decide +kernel
theorem dX12_meet_94 : decode cX12_meet 94 = .ok (.iload 8, 2) := by decide +kernel
theorem dX12_meet_96 : decode cX12_meet 96 = .ok (.goto 11, 3) := by decide +kernel
theorem dX12_meet_99 : decode cX12_meet 99 = .ok (.lload 4, 2) := by decide +kernel
theorem dX12_meet_101 : decode cX12_meet 101 = .ok (.lload 6, 2) := by decide +kernel
theorem dX12_meet_103 : decode cX12_meet 103 = .ok (.land, 1) := by decide +kernel
theorem dX12_meet_104 : decode cX12_meet 104 = .ok (.invokestatic 534, 3) := by decide +kernel
theorem dX12_meet_107 : decode cX12_meet 107 = .ok (.ireturn, 1) := by decide +kernel
theorem dX12_meet_108 : decode cX12_meet 108 = .ok (.iload 8, 2) := by decide +kernel
theorem dX12_meet_110 : decode cX12_meet 110 = .ok (.bipush 48, 2) := by decide +kernel
theorem dX12_meet_112 : decode cX12_meet 112 = .ok (.if_icmp .ne 5, 3) := by decide +kernel
theorem dX12_meet_115 : decode cX12_meet 115 = .ok (.iconst (-1), 1) := by decide +kernel
theorem dX12_meet_116 : decode cX12_meet 116 = .ok (.ireturn, 1) := by decide +kernel
theorem dX12_meet_117 : decode cX12_meet 117 = .ok (.aload_n 0, 1) := by decide +kernel
theorem dX12_meet_118 : decode cX12_meet 118 = .ok (.lload 4, 2) := by decide +kernel
theorem dX12_meet_120 : decode cX12_meet 120 = .ok (.iload 8, 2) := by decide +kernel
theorem dX12_meet_122 : decode cX12_meet 122 = .ok (.invokevirtual 530, 3) := by decide +kernel
theorem dX12_meet_125 : decode cX12_meet 125 = .ok (.lstore 4, 2) := by decide +kernel
theorem dX12_meet_127 : decode cX12_meet 127 = .ok (.aload_n 0, 1) := by decide +kernel
theorem dX12_meet_128 : decode cX12_meet 128 = .ok (.lload 6, 2) := by decide +kernel
theorem dX12_meet_130 : decode cX12_meet 130 = .ok (.iload 8, 2) := by decide +kernel
theorem dX12_meet_132 : decode cX12_meet 132 = .ok (.invokevirtual 530, 3) := by decide +kernel
theorem dX12_meet_135 : decode cX12_meet 135 = .ok (.lstore 6, 2) := by decide +kernel
theorem dX12_meet_137 : decode cX12_meet 137 = .ok (.iinc 8 1, 3) := by decide +kernel
theorem dX12_meet_140 : decode cX12_meet 140 = .ok (.goto (-67), 3) := by decide +kernel
theorem dX12_meet_143 : decode cX12_meet 143 = .ok (.iconst (-1), 1) := by decide +kernel
theorem dX12_meet_144 : decode cX12_meet 144 = .ok (.ireturn, 1) := by decide +kernel
theorem dX12_barred_0 : decode cX12_barred 0 = .ok (.aload_n 0, 1) := by decide +kernel
theorem dX12_barred_1 : decode cX12_barred 1 = .ok (.iload_n 1, 1) := by decide +kernel
theorem dX12_barred_2 : decode cX12_barred 2 = .ok (.invokevirtual 518, 3) := by decide +kernel
theorem dX12_barred_5 : decode cX12_barred 5 = .ok (.ifCond .eq 10, 3) := by decide +kernel
theorem dX12_barred_8 : decode cX12_barred 8 = .ok (.iload_n 2, 1) := by decide +kernel
theorem dX12_barred_9 : decode cX12_barred 9 = .ok (.invokestatic 514, 3) := by decide +kernel
theorem dX12_barred_12 : decode cX12_barred 12 = .ok (.ifCond .ne 5, 3) := by decide +kernel
theorem dX12_barred_15 : decode cX12_barred 15 = .ok (.lconst 0, 1) := by decide +kernel
theorem dX12_barred_16 : decode cX12_barred 16 = .ok (.lreturn, 1) := by decide +kernel
theorem dX12_barred_17 : decode cX12_barred 17 = .ok (.aload_n 0, 1) := by decide +kernel
theorem dX12_barred_18 : decode cX12_barred 18 = .ok (.iconst 0, 1) := by decide +kernel
theorem dX12_barred_19 : decode cX12_barred 19 = .ok (.invokevirtual 505, 3) := by decide +kernel
theorem dX12_barred_22 : decode cX12_barred 22 = .ok (.aload_n 0, 1) := by decide +kernel
theorem dX12_barred_23 : decode cX12_barred 23 = .ok (.aload_n 0, 1) := by decide +kernel
theorem dX12_barred_24 : decode cX12_barred 24 = .ok (.getfield 96, 3) := by decide +kernel
theorem dX12_barred_27 : decode cX12_barred 27 = .ok (.bipush 8, 2) := by decide +kernel
theorem dX12_barred_29 : decode cX12_barred 29 = .ok (.iaload, 1) := by decide +kernel
theorem dX12_barred_30 : decode cX12_barred 30 = .ok (.iload_n 2, 1) := by decide +kernel
theorem dX12_barred_31 : decode cX12_barred 31 = .ok (.invokevirtual 527, 3) := by decide +kernel
theorem dX12_barred_34 : decode cX12_barred 34 = .ok (.lconst 0, 1) := by decide +kernel
theorem dX12_barred_35 : decode cX12_barred 35 = .ok (.lstore_n 3, 1) := by decide +kernel
theorem dX12_barred_36 : decode cX12_barred 36 = .ok (.iconst 0, 1) := by decide +kernel
theorem dX12_barred_37 : decode cX12_barred 37 = .ok (.istore 5, 2) := by decide +kernel
theorem dX12_barred_39 : decode cX12_barred 39 = .ok (.iload 5, 2) := by decide +kernel
theorem dX12_barred_41 : decode cX12_barred 41 = .ok (.aload_n 0, 1) := by decide +kernel
theorem dX12_barred_42 : decode cX12_barred 42 = .ok (.getfield 90, 3) := by decide +kernel
theorem dX12_barred_45 : decode cX12_barred 45 = .ok (.aload_n 0, 1) := by decide +kernel
theorem dX12_barred_46 : decode cX12_barred 46 = .ok (.getfield 93, 3) := by decide +kernel
theorem dX12_barred_49 : decode cX12_barred 49 = .ok (.imul, 1) := by decide +kernel
theorem dX12_barred_50 : decode cX12_barred 50 = .ok (.if_icmp .ge 42, 3) := by decide +kernel
theorem dX12_barred_53 : decode cX12_barred 53 = .ok (.aload_n 0, 1) := by decide +kernel
theorem dX12_barred_54 : decode cX12_barred 54 = .ok (.getfield 403, 3) := by decide +kernel
theorem dX12_barred_57 : decode cX12_barred 57 = .ok (.iload 5, 2) := by decide +kernel
theorem dX12_barred_59 : decode cX12_barred 59 = .ok (.invokestatic 330, 3) := by decide +kernel
theorem dX12_barred_62 : decode cX12_barred 62 = .ok (.ifCond .ne 24, 3) := by decide +kernel
theorem dX12_barred_65 : decode cX12_barred 65 = .ok (.aload_n 0, 1) := by decide +kernel
theorem dX12_barred_66 : decode cX12_barred 66 = .ok (.iload 5, 2) := by decide +kernel
theorem dX12_barred_68 : decode cX12_barred 68 = .ok (.iload_n 2, 1) := by decide +kernel
theorem dX12_barred_69 : decode cX12_barred 69 = .ok (.invokevirtual 537, 3) := by decide +kernel
theorem dX12_barred_72 : decode cX12_barred 72 = .ok (.iload_n 1, 1) := by decide +kernel
theorem dX12_barred_73 : decode cX12_barred 73 = .ok (.invokestatic 330, 3) := by decide +kernel
theorem dX12_barred_76 : decode cX12_barred 76 = .ok (.ifCond .ne 10, 3) := by decide +kernel
theorem dX12_barred_79 : decode cX12_barred 79 = .ok (.lload_n 3, 1) := by decide +kernel
theorem dX12_barred_80 : decode cX12_barred 80 = .ok (.lconst 1, 1) := by decide +kernel
theorem dX12_barred_81 : decode cX12_barred 81 = .ok (.iload 5, 2) := by decide +kernel
theorem dX12_barred_83 : decode cX12_barred 83 = .ok (.lshl, 1) := by decide +kernel
theorem dX12_barred_84 : decode cX12_barred 84 = .ok (.lor, 1) := by decide +kernel
theorem dX12_barred_85 : decode cX12_barred 85 = .ok (.lstore_n 3, 1) := by decide +kernel
theorem dX12_barred_86 : decode cX12_barred 86 = .ok (.iinc 5 1, 3) := by decide +kernel
theorem dX12_barred_89 : decode cX12_barred 89 = .ok (.goto (-50), 3) := by decide +kernel
theorem dX12_barred_92 : decode cX12_barred 92 = .ok (.lload_n 3, 1) := by decide +kernel
theorem dX12_barred_93 : decode cX12_barred 93 = .ok (.lreturn, 1) := by decide +kernel
theorem dX12_longest_0 : decode cX12_longest 0 = .ok (.aload_n 0, 1) := by decide +kernel
theorem dX12_longest_1 : decode cX12_longest 1 = .ok (.iload_n 1, 1) := by decide +kernel
theorem dX12_longest_2 : decode cX12_longest 2 = .ok (.invokevirtual 502, 3) := by decide +kernel
theorem dX12_longest_5 : decode cX12_longest 5 = .ok (.ifCond .eq 12, 3) := by decide +kernel
theorem dX12_longest_8 : decode cX12_longest 8 = .ok (.iload_n 2, 1) := by decide +kernel
theorem dX12_longest_9 : decode cX12_longest 9 = .ok (.iconst 0, 1) := by decide +kernel
theorem dX12_longest_10 : decode cX12_longest 10 = .ok (.iconst 1, 1) := by decide +kernel
theorem dX12_longest_11 : decode cX12_longest 11 = .ok (.invokestatic 436, 3) := by decide +kernel
theorem dX12_longest_14 : decode cX12_longest 14 = .ok (.ifCond .ne 5, 3) := by decide +kernel
theorem dX12_longest_17 : decode cX12_longest 17 = .ok (.iconst (-1), 1) := by decide +kernel
theorem dX12_longest_18 : decode cX12_longest 18 = .ok (.ireturn, 1) := by decide +kernel
theorem dX12_longest_19 : decode cX12_longest 19 = .ok (.iconst 0, 1) := by decide +kernel
theorem dX12_longest_20 : decode cX12_longest 20 = .ok (.istore_n 3, 1) := by decide +kernel
theorem dX12_longest_21 : decode cX12_longest 21 = .ok (.iconst (-1), 1) := by decide +kernel
theorem dX12_longest_22 : decode cX12_longest 22 = .ok (.istore 4, 2) := by decide +kernel
theorem dX12_longest_24 : decode cX12_longest 24 = .ok (.iconst 0, 1) := by decide +kernel
theorem dX12_longest_25 : decode cX12_longest 25 = .ok (.istore 5, 2) := by decide +kernel
theorem dX12_longest_27 : decode cX12_longest 27 = .ok (.iload 5, 2) := by decide +kernel
theorem dX12_longest_29 : decode cX12_longest 29 = .ok (.bipush 24, 2) := by decide +kernel
theorem dX12_longest_31 : decode cX12_longest 31 = .ok (.if_icmp .ge 42, 3) := by decide +kernel
theorem dX12_longest_34 : decode cX12_longest 34 = .ok (.aload_n 0, 1) := by decide +kernel
theorem dX12_longest_35 : decode cX12_longest 35 = .ok (.iload 5, 2) := by decide +kernel
theorem dX12_longest_37 : decode cX12_longest 37 = .ok (.invokevirtual 505, 3) := by decide +kernel
theorem dX12_longest_40 : decode cX12_longest 40 = .ok (.aload_n 0, 1) := by decide +kernel
theorem dX12_longest_41 : decode cX12_longest 41 = .ok (.iload_n 1, 1) := by decide +kernel
theorem dX12_longest_42 : decode cX12_longest 42 = .ok (.invokevirtual 480, 3) := by decide +kernel
theorem dX12_longest_45 : decode cX12_longest 45 = .ok (.invokestatic 540, 3) := by decide +kernel
theorem dX12_longest_48 : decode cX12_longest 48 = .ok (.istore 6, 2) := by decide +kernel
theorem dX12_longest_50 : decode cX12_longest 50 = .ok (.iload 6, 2) := by decide +kernel
theorem dX12_longest_52 : decode cX12_longest 52 = .ok (.iload 4, 2) := by decide +kernel
theorem dX12_longest_54 : decode cX12_longest 54 = .ok (.if_icmp .gt 6, 3) := by decide +kernel
theorem dX12_longest_57 : decode cX12_longest 57 = .ok (.goto 10, 3) := by decide +kernel
theorem dX12_longest_60 : decode cX12_longest 60 = .ok (.iload 5, 2) := by decide +kernel
theorem dX12_longest_62 : decode cX12_longest 62 = .ok (.istore_n 3, 1) := by decide +kernel
theorem dX12_longest_63 : decode cX12_longest 63 = .ok (.iload 6, 2) := by decide +kernel
theorem dX12_longest_65 : decode cX12_longest 65 = .ok (.istore 4, 2) := by decide +kernel
theorem dX12_longest_67 : decode cX12_longest 67 = .ok (.iinc 5 1, 3) := by decide +kernel
theorem dX12_longest_70 : decode cX12_longest 70 = .ok (.goto (-43), 3) := by decide +kernel
theorem dX12_longest_73 : decode cX12_longest 73 = .ok (.iload_n 2, 1) := by decide +kernel
theorem dX12_longest_74 : decode cX12_longest 74 = .ok (.ifCond .ne 7, 3) := by decide +kernel
theorem dX12_longest_77 : decode cX12_longest 77 = .ok (.iload_n 3, 1) := by decide +kernel
theorem dX12_longest_78 : decode cX12_longest 78 = .ok (.goto 5, 3) := by decide +kernel
theorem dX12_longest_81 : decode cX12_longest 81 = .ok (.iload 4, 2) := by decide +kernel
theorem dX12_longest_83 : decode cX12_longest 83 = .ok (.ireturn, 1) := by decide +kernel
theorem dX12_cross_0 : decode cX12_cross 0 = .ok (.aload_n 0, 1) := by decide +kernel
theorem dX12_cross_1 : decode cX12_cross 1 = .ok (.iload_n 1, 1) := by decide +kernel
theorem dX12_cross_2 : decode cX12_cross 2 = .ok (.invokevirtual 502, 3) := by decide +kernel
theorem dX12_cross_5 : decode cX12_cross 5 = .ok (.ifCond .eq 25, 3) := by decide +kernel
theorem dX12_cross_8 : decode cX12_cross 8 = .ok (.aload_n 0, 1) := by decide +kernel
theorem dX12_cross_9 : decode cX12_cross 9 = .ok (.iload_n 2, 1) := by decide +kernel
theorem dX12_cross_10 : decode cX12_cross 10 = .ok (.invokevirtual 502, 3) := by decide +kernel
theorem dX12_cross_13 : decode cX12_cross 13 = .ok (.ifCond .eq 17, 3) := by decide +kernel
theorem dX12_cross_16 : decode cX12_cross 16 = .ok (.iload_n 1, 1) := by decide +kernel
theorem dX12_cross_17 : decode cX12_cross 17 = .ok (.iload_n 2, 1) := by decide +kernel
theorem dX12_cross_18 : decode cX12_cross 18 = .ok (.if_icmp .eq 12, 3) := by decide +kernel
theorem dX12_cross_21 : decode cX12_cross 21 = .ok (.iload_n 3, 1) := by decide +kernel
theorem dX12_cross_22 : decode cX12_cross 22 = .ok (.iconst 0, 1) := by decide +kernel
theorem dX12_cross_23 : decode cX12_cross 23 = .ok (.iconst 1, 1) := by decide +kernel
theorem dX12_cross_24 : decode cX12_cross 24 = .ok (.invokestatic 436, 3) := by decide +kernel
theorem dX12_cross_27 : decode cX12_cross 27 = .ok (.ifCond .ne 5, 3) := by decide +kernel
theorem dX12_cross_30 : decode cX12_cross 30 = .ok (.iconst (-1), 1) := by decide +kernel
theorem dX12_cross_31 : decode cX12_cross 31 = .ok (.ireturn, 1) := by decide +kernel
theorem dX12_cross_32 : decode cX12_cross 32 = .ok (.iconst 0, 1) := by decide +kernel
theorem dX12_cross_33 : decode cX12_cross 33 = .ok (.istore 4, 2) := by decide +kernel
theorem dX12_cross_35 : decode cX12_cross 35 = .ok (.iload 4, 2) := by decide +kernel
theorem dX12_cross_37 : decode cX12_cross 37 = .ok (.bipush 48, 2) := by decide +kernel
theorem dX12_cross_39 : decode cX12_cross 39 = .ok (.if_icmp .gt 70, 3) := by decide +kernel
theorem dX12_cross_42 : decode cX12_cross 42 = .ok (.aload_n 0, 1) := by decide +kernel
theorem dX12_cross_43 : decode cX12_cross 43 = .ok (.iload 4, 2) := by decide +kernel
theorem dX12_cross_45 : decode cX12_cross 45 = .ok (.invokevirtual 505, 3) := by decide +kernel
theorem dX12_cross_48 : decode cX12_cross 48 = .ok (.aload_n 0, 1) := by decide +kernel
theorem dX12_cross_49 : decode cX12_cross 49 = .ok (.iload_n 1, 1) := by decide +kernel
theorem dX12_cross_50 : decode cX12_cross 50 = .ok (.invokevirtual 487, 3) := by decide +kernel
theorem dX12_cross_53 : decode cX12_cross 53 = .ok (.ifCond .eq 25, 3) := by decide +kernel
theorem dX12_cross_56 : decode cX12_cross 56 = .ok (.aload_n 0, 1) := by decide +kernel
theorem dX12_cross_57 : decode cX12_cross 57 = .ok (.iload_n 2, 1) := by decide +kernel
theorem dX12_cross_58 : decode cX12_cross 58 = .ok (.invokevirtual 487, 3) := by decide +kernel
theorem dX12_cross_61 : decode cX12_cross 61 = .ok (.ifCond .eq 17, 3) := by decide +kernel
theorem dX12_cross_64 : decode cX12_cross 64 = .ok (.aload_n 0, 1) := by decide +kernel
theorem dX12_cross_65 : decode cX12_cross 65 = .ok (.iload_n 1, 1) := by decide +kernel
theorem dX12_cross_66 : decode cX12_cross 66 = .ok (.invokevirtual 480, 3) := by decide +kernel
theorem dX12_cross_69 : decode cX12_cross 69 = .ok (.aload_n 0, 1) := by decide +kernel
theorem dX12_cross_70 : decode cX12_cross 70 = .ok (.iload_n 2, 1) := by decide +kernel
theorem dX12_cross_71 : decode cX12_cross 71 = .ok (.invokevirtual 480, 3) := by decide +kernel
theorem dX12_cross_74 : decode cX12_cross 74 = .ok (.land, 1) := by decide +kernel
theorem dX12_cross_75 : decode cX12_cross 75 = .ok (.goto 4, 3) := by decide +kernel
theorem dX12_cross_78 : decode cX12_cross 78 = .ok (.lconst 0, 1) := by decide +kernel
theorem dX12_cross_79 : decode cX12_cross 79 = .ok (.lstore 5, 2) := by decide +kernel
theorem dX12_cross_81 : decode cX12_cross 81 = .ok (.lload 5, 2) := by decide +kernel
theorem dX12_cross_83 : decode cX12_cross 83 = .ok (.lconst 0, 1) := by decide +kernel
theorem dX12_cross_84 : decode cX12_cross 84 = .ok (.lcmp, 1) := by decide +kernel
theorem dX12_cross_85 : decode cX12_cross 85 = .ok (.ifCond .eq 18, 3) := by decide +kernel
theorem dX12_cross_88 : decode cX12_cross 88 = .ok (.iload_n 3, 1) := by decide +kernel
theorem dX12_cross_89 : decode cX12_cross 89 = .ok (.ifCond .ne 8, 3) := by decide +kernel
theorem dX12_cross_92 : decode cX12_cross 92 = .ok (.iload 4, 2) := by decide +kernel
theorem dX12_cross_94 : decode cX12_cross 94 = .ok (.goto 8, 3) := by decide +kernel
theorem dX12_cross_97 : decode cX12_cross 97 = .ok (.lload 5, 2) := by decide +kernel
theorem dX12_cross_99 : decode cX12_cross 99 = .ok (.invokestatic 534, 3) := by decide +kernel
theorem dX12_cross_102 : decode cX12_cross 102 = .ok (.ireturn, 1) := by decide +kernel
theorem dX12_cross_103 : decode cX12_cross 103 = .ok (.iinc 4 1, 3) := by decide +kernel
theorem dX12_cross_106 : decode cX12_cross 106 = .ok (.goto (-71), 3) := by decide +kernel
theorem dX12_cross_109 : decode cX12_cross 109 = .ok (.iconst (-1), 1) := by decide +kernel
theorem dX12_cross_110 : decode cX12_cross 110 = .ok (.ireturn, 1) := by decide +kernel
theorem dX12_join_0 : decode cX12_join 0 = .ok (.aload_n 0, 1) := by decide +kernel
theorem dX12_join_1 : decode cX12_join 1 = .ok (.getfield 114, 3) := by decide +kernel
theorem dX12_join_4 : decode cX12_join 4 = .ok (.iload_n 1, 1) := by decide +kernel
theorem dX12_join_5 : decode cX12_join 5 = .ok (.iaload, 1) := by decide +kernel
theorem dX12_join_6 : decode cX12_join 6 = .ok (.istore_n 3, 1) := by decide +kernel
theorem dX12_join_7 : decode cX12_join 7 = .ok (.aload_n 0, 1) := by decide +kernel
theorem dX12_join_8 : decode cX12_join 8 = .ok (.getfield 114, 3) := by decide +kernel
theorem dX12_join_11 : decode cX12_join 11 = .ok (.iload_n 2, 1) := by decide +kernel
theorem dX12_join_12 : decode cX12_join 12 = .ok (.iaload, 1) := by decide +kernel
theorem dX12_join_13 : decode cX12_join 13 = .ok (.istore 4, 2) := by decide +kernel
theorem dX12_join_15 : decode cX12_join 15 = .ok (.iload_n 3, 1) := by decide +kernel
theorem dX12_join_16 : decode cX12_join 16 = .ok (.iload 4, 2) := by decide +kernel
theorem dX12_join_18 : decode cX12_join 18 = .ok (.if_icmp .ge 7, 3) := by decide +kernel
theorem dX12_join_21 : decode cX12_join 21 = .ok (.iload_n 3, 1) := by decide +kernel
theorem dX12_join_22 : decode cX12_join 22 = .ok (.goto 5, 3) := by decide +kernel
theorem dX12_join_25 : decode cX12_join 25 = .ok (.iload 4, 2) := by decide +kernel
theorem dX12_join_27 : decode cX12_join 27 = .ok (.istore 5, 2) := by decide +kernel
theorem dX12_join_29 : decode cX12_join 29 = .ok (.iconst 0, 1) := by decide +kernel
theorem dX12_join_30 : decode cX12_join 30 = .ok (.istore 6, 2) := by decide +kernel
theorem dX12_join_32 : decode cX12_join 32 = .ok (.iload 6, 2) := by decide +kernel
theorem dX12_join_34 : decode cX12_join 34 = .ok (.aload_n 0, 1) := by decide +kernel
theorem dX12_join_35 : decode cX12_join 35 = .ok (.getfield 90, 3) := by decide +kernel
theorem dX12_join_38 : decode cX12_join 38 = .ok (.aload_n 0, 1) := by decide +kernel
theorem dX12_join_39 : decode cX12_join 39 = .ok (.getfield 93, 3) := by decide +kernel
theorem dX12_join_42 : decode cX12_join 42 = .ok (.imul, 1) := by decide +kernel
theorem dX12_join_43 : decode cX12_join 43 = .ok (.if_icmp .ge 41, 3) := by decide +kernel
theorem dX12_join_46 : decode cX12_join 46 = .ok (.aload_n 0, 1) := by decide +kernel
theorem dX12_join_47 : decode cX12_join 47 = .ok (.getfield 114, 3) := by decide +kernel
theorem dX12_join_50 : decode cX12_join 50 = .ok (.iload 6, 2) := by decide +kernel
theorem dX12_join_52 : decode cX12_join 52 = .ok (.iaload, 1) := by decide +kernel
theorem dX12_join_53 : decode cX12_join 53 = .ok (.iload_n 3, 1) := by decide +kernel
theorem dX12_join_54 : decode cX12_join 54 = .ok (.if_icmp .eq 15, 3) := by decide +kernel
theorem dX12_join_57 : decode cX12_join 57 = .ok (.aload_n 0, 1) := by decide +kernel
theorem dX12_join_58 : decode cX12_join 58 = .ok (.getfield 114, 3) := by decide +kernel
theorem dX12_join_61 : decode cX12_join 61 = .ok (.iload 6, 2) := by decide +kernel
theorem dX12_join_63 : decode cX12_join 63 = .ok (.iaload, 1) := by decide +kernel
theorem dX12_join_64 : decode cX12_join 64 = .ok (.iload 4, 2) := by decide +kernel
theorem dX12_join_66 : decode cX12_join 66 = .ok (.if_icmp .ne 12, 3) := by decide +kernel
theorem dX12_join_69 : decode cX12_join 69 = .ok (.aload_n 0, 1) := by decide +kernel
theorem dX12_join_70 : decode cX12_join 70 = .ok (.getfield 114, 3) := by decide +kernel
theorem dX12_join_73 : decode cX12_join 73 = .ok (.iload 6, 2) := by decide +kernel
theorem dX12_join_75 : decode cX12_join 75 = .ok (.iload 5, 2) := by decide +kernel
theorem dX12_join_77 : decode cX12_join 77 = .ok (.iastore, 1) := by decide +kernel
theorem dX12_join_78 : decode cX12_join 78 = .ok (.iinc 6 1, 3) := by decide +kernel
theorem dX12_join_81 : decode cX12_join 81 = .ok (.goto (-49), 3) := by decide +kernel
theorem dX12_join_84 : decode cX12_join 84 = .ok (.return_, 1) := by decide +kernel
theorem dX12_layRooms_0 : decode cX12_layRooms 0 = .ok (.aload_n 0, 1) := by decide +kernel
theorem dX12_layRooms_1 : decode cX12_layRooms 1 = .ok (.iload_n 1, 1) := by decide +kernel
theorem dX12_layRooms_2 : decode cX12_layRooms 2 = .ok (.invokevirtual 505, 3) := by decide +kernel
theorem dX12_layRooms_5 : decode cX12_layRooms 5 = .ok (.aload_n 0, 1) := by decide +kernel
theorem dX12_layRooms_6 : decode cX12_layRooms 6 = .ok (.invokevirtual 490, 3) := by decide +kernel
theorem dX12_layRooms_9 : decode cX12_layRooms 9 = .ok (.iconst 0, 1) := by decide +kernel
theorem dX12_layRooms_10 : decode cX12_layRooms 10 = .ok (.istore_n 2, 1) := by decide +kernel
theorem dX12_layRooms_11 : decode cX12_layRooms 11 = .ok (.iload_n 2, 1) := by decide +kernel
theorem dX12_layRooms_12 : decode cX12_layRooms 12 = .ok (.aload_n 0, 1) := by decide +kernel
theorem dX12_layRooms_13 : decode cX12_layRooms 13 = .ok (.getfield 90, 3) := by decide +kernel
theorem dX12_layRooms_16 : decode cX12_layRooms 16 = .ok (.aload_n 0, 1) := by decide +kernel
theorem dX12_layRooms_17 : decode cX12_layRooms 17 = .ok (.getfield 93, 3) := by decide +kernel
theorem dX12_layRooms_20 : decode cX12_layRooms 20 = .ok (.imul, 1) := by decide +kernel
theorem dX12_layRooms_21 : decode cX12_layRooms 21 = .ok (.if_icmp .ge 31, 3) := by decide +kernel
theorem dX12_layRooms_24 : decode cX12_layRooms 24 = .ok (.aload_n 0, 1) := by decide +kernel
theorem dX12_layRooms_25 : decode cX12_layRooms 25 = .ok (.getfield 114, 3) := by decide +kernel
theorem dX12_layRooms_28 : decode cX12_layRooms 28 = .ok (.iload_n 2, 1) := by decide +kernel
theorem dX12_layRooms_29 : decode cX12_layRooms 29 = .ok (.aload_n 0, 1) := by decide +kernel
theorem dX12_layRooms_30 : decode cX12_layRooms 30 = .ok (.getfield 403, 3) := by decide +kernel
theorem dX12_layRooms_33 : decode cX12_layRooms 33 = .ok (.iload_n 2, 1) := by decide +kernel
theorem dX12_layRooms_34 : decode cX12_layRooms 34 = .ok (.invokestatic 330, 3) := by decide +kernel
theorem dX12_layRooms_37 : decode cX12_layRooms 37 = .ok (.ifCond .eq 7, 3) := by decide +kernel
theorem dX12_layRooms_40 : decode cX12_layRooms 40 = .ok (.iconst (-1), 1) := by decide +kernel
theorem dX12_layRooms_41 : decode cX12_layRooms 41 = .ok (.goto 4, 3) := by decide +kernel
theorem dX12_layRooms_44 : decode cX12_layRooms 44 = .ok (.iload_n 2, 1) := by decide +kernel
theorem dX12_layRooms_45 : decode cX12_layRooms 45 = .ok (.iastore, 1) := by decide +kernel
theorem dX12_layRooms_46 : decode cX12_layRooms 46 = .ok (.iinc 2 1, 3) := by decide +kernel
theorem dX12_layRooms_49 : decode cX12_layRooms 49 = .ok (.goto (-38), 3) := by decide +kernel
theorem dX12_layRooms_52 : decode cX12_layRooms 52 = .ok (.iconst 0, 1) := by decide +kernel
theorem dX12_layRooms_53 : decode cX12_layRooms 53 = .ok (.istore_n 2, 1) := by decide +kernel
theorem dX12_layRooms_54 : decode cX12_layRooms 54 = .ok (.iload_n 2, 1) := by decide +kernel
theorem dX12_layRooms_55 : decode cX12_layRooms 55 = .ok (.aload_n 0, 1) := by decide +kernel
theorem dX12_layRooms_56 : decode cX12_layRooms 56 = .ok (.getfield 90, 3) := by decide +kernel
theorem dX12_layRooms_59 : decode cX12_layRooms 59 = .ok (.aload_n 0, 1) := by decide +kernel
theorem dX12_layRooms_60 : decode cX12_layRooms 60 = .ok (.getfield 93, 3) := by decide +kernel
theorem dX12_layRooms_63 : decode cX12_layRooms 63 = .ok (.imul, 1) := by decide +kernel
theorem dX12_layRooms_64 : decode cX12_layRooms 64 = .ok (.if_icmp .ge 51, 3) := by decide +kernel
theorem dX12_layRooms_67 : decode cX12_layRooms 67 = .ok (.iconst 0, 1) := by decide +kernel
theorem dX12_layRooms_68 : decode cX12_layRooms 68 = .ok (.istore_n 3, 1) := by decide +kernel
theorem dX12_layRooms_69 : decode cX12_layRooms 69 = .ok (.iload_n 3, 1) := by decide +kernel
theorem dX12_layRooms_70 : decode cX12_layRooms 70 = .ok (.iload_n 2, 1) := by decide +kernel
theorem dX12_layRooms_71 : decode cX12_layRooms 71 = .ok (.if_icmp .ge 38, 3) := by decide +kernel
theorem dX12_layRooms_74 : decode cX12_layRooms 74 = .ok (.aload_n 0, 1) := by decide +kernel
theorem dX12_layRooms_75 : decode cX12_layRooms 75 = .ok (.getfield 403, 3) := by decide +kernel
theorem dX12_layRooms_78 : decode cX12_layRooms 78 = .ok (.iload_n 2, 1) := by decide +kernel
theorem dX12_layRooms_79 : decode cX12_layRooms 79 = .ok (.invokestatic 330, 3) := by decide +kernel
theorem dX12_layRooms_82 : decode cX12_layRooms 82 = .ok (.ifCond .ne 21, 3) := by decide +kernel
theorem dX12_layRooms_85 : decode cX12_layRooms 85 = .ok (.aload_n 0, 1) := by decide +kernel
theorem dX12_layRooms_86 : decode cX12_layRooms 86 = .ok (.iload_n 2, 1) := by decide +kernel
theorem dX12_layRooms_87 : decode cX12_layRooms 87 = .ok (.invokevirtual 484, 3) := by decide +kernel
theorem dX12_layRooms_90 : decode cX12_layRooms 90 = .ok (.iload_n 3, 1) := by decide +kernel
theorem dX12_layRooms_91 : decode cX12_layRooms 91 = .ok (.invokestatic 330, 3) := by decide +kernel

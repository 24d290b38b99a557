theorem dX0_init_0 : decode cX0_init 0 = .ok (.aload_n 0, 1) := by decide +kernel
theorem dX0_init_1 : decode cX0_init 1 = .ok (.invokespecial 3, 3) := by decide +kernel
theorem dX0_init_4 : decode cX0_init 4 = .ok (.aload_n 0, 1) := by decide +kernel
theorem dX0_init_5 : decode cX0_init 5 = .ok (.bipush 41, 2) := by decide +kernel
theorem dX0_init_7 : decode cX0_init 7 = .ok (.newarray .long, 2) := by decide +kernel
theorem dX0_init_9 : decode cX0_init 9 = .ok (.putfield 9, 3) := by decide +kernel
theorem dX0_init_12 : decode cX0_init 12 = .ok (.return_, 1) := by decide +kernel
theorem dX0_begin_0 : decode cX0_begin 0 = .ok (.aload_n 0, 1) := by decide +kernel
theorem dX0_begin_1 : decode cX0_begin 1 = .ok (.getfield 9, 3) := by decide +kernel
theorem dX0_begin_4 : decode cX0_begin 4 = .ok (.iconst 0, 1) := by decide +kernel
theorem dX0_begin_5 : decode cX0_begin 5 = .ok (.lload_n 1, 1) := by decide +kernel
theorem dX0_begin_6 : decode cX0_begin 6 = .ok (.lastore, 1) := by decide +kernel
theorem dX0_begin_7 : decode cX0_begin 7 = .ok (.aload_n 0, 1) := by decide +kernel
theorem dX0_begin_8 : decode cX0_begin 8 = .ok (.iconst 0, 1) := by decide +kernel
theorem dX0_begin_9 : decode cX0_begin 9 = .ok (.putfield 15, 3) := by decide +kernel
theorem dX0_begin_12 : decode cX0_begin 12 = .ok (.aload_n 0, 1) := by decide +kernel
theorem dX0_begin_13 : decode cX0_begin 13 = .ok (.iconst 0, 1) := by decide +kernel
theorem dX0_begin_14 : decode cX0_begin 14 = .ok (.putfield 19, 3) := by decide +kernel
theorem dX0_begin_17 : decode cX0_begin 17 = .ok (.return_, 1) := by decide +kernel
theorem dX0_add_0 : decode cX0_add 0 = .ok (.aload_n 0, 1) := by decide +kernel
theorem dX0_add_1 : decode cX0_add 1 = .ok (.getfield 15, 3) := by decide +kernel
theorem dX0_add_4 : decode cX0_add 4 = .ok (.bipush 40, 2) := by decide +kernel
theorem dX0_add_6 : decode cX0_add 6 = .ok (.if_icmp .lt 24, 3) := by decide +kernel
theorem dX0_add_9 : decode cX0_add 9 = .ok (.aload_n 0, 1) := by decide +kernel
theorem dX0_add_10 : decode cX0_add 10 = .ok (.getfield 9, 3) := by decide +kernel
theorem dX0_add_13 : decode cX0_add 13 = .ok (.iconst 1, 1) := by decide +kernel
theorem dX0_add_14 : decode cX0_add 14 = .ok (.aload_n 0, 1) := by decide +kernel
theorem dX0_add_15 : decode cX0_add 15 = .ok (.getfield 9, 3) := by decide +kernel
theorem dX0_add_18 : decode cX0_add 18 = .ok (.iconst 0, 1) := by decide +kernel
theorem dX0_add_19 : decode cX0_add 19 = .ok (.bipush 40, 2) := by decide +kernel
theorem dX0_add_21 : decode cX0_add 21 = .ok (.invokestatic 22, 3) := by decide +kernel
theorem dX0_add_24 : decode cX0_add 24 = .ok (.aload_n 0, 1) := by decide +kernel
theorem dX0_add_25 : decode cX0_add 25 = .ok (.bipush 39, 2) := by decide +kernel
theorem dX0_add_27 : decode cX0_add 27 = .ok (.putfield 15, 3) := by decide +kernel
theorem dX0_add_30 : decode cX0_add 30 = .ok (.aload_n 0, 1) := by decide +kernel
theorem dX0_add_31 : decode cX0_add 31 = .ok (.dup, 1) := by decide +kernel
theorem dX0_add_32 : decode cX0_add 32 = .ok (.getfield 15, 3) := by decide +kernel
theorem dX0_add_35 : decode cX0_add 35 = .ok (.iconst 1, 1) := by decide +kernel
theorem dX0_add_36 : decode cX0_add 36 = .ok (.iadd, 1) := by decide +kernel
theorem dX0_add_37 : decode cX0_add 37 = .ok (.putfield 15, 3) := by decide +kernel
theorem dX0_add_40 : decode cX0_add 40 = .ok (.aload_n 0, 1) := by decide +kernel
theorem dX0_add_41 : decode cX0_add 41 = .ok (.getfield 9, 3) := by decide +kernel
theorem dX0_add_44 : decode cX0_add 44 = .ok (.aload_n 0, 1) := by decide +kernel
theorem dX0_add_45 : decode cX0_add 45 = .ok (.getfield 15, 3) := by decide +kernel
theorem dX0_add_48 : decode cX0_add 48 = .ok (.lload_n 1, 1) := by decide +kernel
theorem dX0_add_49 : decode cX0_add 49 = .ok (.lastore, 1) := by decide +kernel
theorem dX0_add_50 : decode cX0_add 50 = .ok (.aload_n 0, 1) := by decide +kernel
theorem dX0_add_51 : decode cX0_add 51 = .ok (.aload_n 0, 1) := by decide +kernel
theorem dX0_add_52 : decode cX0_add 52 = .ok (.getfield 15, 3) := by decide +kernel
theorem dX0_add_55 : decode cX0_add 55 = .ok (.putfield 19, 3) := by decide +kernel
theorem dX0_add_58 : decode cX0_add 58 = .ok (.return_, 1) := by decide +kernel
theorem dX0_stepBack_0 : decode cX0_stepBack 0 = .ok (.aload_n 0, 1) := by decide +kernel
theorem dX0_stepBack_1 : decode cX0_stepBack 1 = .ok (.getfield 15, 3) := by decide +kernel
theorem dX0_stepBack_4 : decode cX0_stepBack 4 = .ok (.ifCond .gt 5, 3) := by decide +kernel
theorem dX0_stepBack_7 : decode cX0_stepBack 7 = .ok (.iconst 0, 1) := by decide +kernel
theorem dX0_stepBack_8 : decode cX0_stepBack 8 = .ok (.ireturn, 1) := by decide +kernel
theorem dX0_stepBack_9 : decode cX0_stepBack 9 = .ok (.aload_n 0, 1) := by decide +kernel
theorem dX0_stepBack_10 : decode cX0_stepBack 10 = .ok (.dup, 1) := by decide +kernel
theorem dX0_stepBack_11 : decode cX0_stepBack 11 = .ok (.getfield 15, 3) := by decide +kernel
theorem dX0_stepBack_14 : decode cX0_stepBack 14 = .ok (.iconst 1, 1) := by decide +kernel
theorem dX0_stepBack_15 : decode cX0_stepBack 15 = .ok (.isub, 1) := by decide +kernel
theorem dX0_stepBack_16 : decode cX0_stepBack 16 = .ok (.putfield 15, 3) := by decide +kernel
theorem dX0_stepBack_19 : decode cX0_stepBack 19 = .ok (.iconst 1, 1) := by decide +kernel
theorem dX0_stepBack_20 : decode cX0_stepBack 20 = .ok (.ireturn, 1) := by decide +kernel
theorem dX0_stepOn_0 : decode cX0_stepOn 0 = .ok (.aload_n 0, 1) := by decide +kernel
theorem dX0_stepOn_1 : decode cX0_stepOn 1 = .ok (.getfield 15, 3) := by decide +kernel
theorem dX0_stepOn_4 : decode cX0_stepOn 4 = .ok (.aload_n 0, 1) := by decide +kernel
theorem dX0_stepOn_5 : decode cX0_stepOn 5 = .ok (.getfield 19, 3) := by decide +kernel
theorem dX0_stepOn_8 : decode cX0_stepOn 8 = .ok (.if_icmp .lt 5, 3) := by decide +kernel
theorem dX0_stepOn_11 : decode cX0_stepOn 11 = .ok (.iconst 0, 1) := by decide +kernel
theorem dX0_stepOn_12 : decode cX0_stepOn 12 = .ok (.ireturn, 1) := by decide +kernel
theorem dX0_stepOn_13 : decode cX0_stepOn 13 = .ok (.aload_n 0, 1) := by decide +kernel
theorem dX0_stepOn_14 : decode cX0_stepOn 14 = .ok (.dup, 1) := by decide +kernel
theorem dX0_stepOn_15 : decode cX0_stepOn 15 = .ok (.getfield 15, 3) := by decide +kernel
theorem dX0_stepOn_18 : decode cX0_stepOn 18 = .ok (.iconst 1, 1) := by decide +kernel
theorem dX0_stepOn_19 : decode cX0_stepOn 19 = .ok (.iadd, 1) := by decide +kernel
theorem dX0_stepOn_20 : decode cX0_stepOn 20 = .ok (.putfield 15, 3) := by decide +kernel
theorem dX0_stepOn_23 : decode cX0_stepOn 23 = .ok (.iconst 1, 1) := by decide +kernel
theorem dX0_stepOn_24 : decode cX0_stepOn 24 = .ok (.ireturn, 1) := by decide +kernel
theorem dX0_current_0 : decode cX0_current 0 = .ok (.aload_n 0, 1) := by decide +kernel
theorem dX0_current_1 : decode cX0_current 1 = .ok (.getfield 9, 3) := by decide +kernel
theorem dX0_current_4 : decode cX0_current 4 = .ok (.aload_n 0, 1) := by decide +kernel
theorem dX0_current_5 : decode cX0_current 5 = .ok (.getfield 15, 3) := by decide +kernel
theorem dX0_current_8 : decode cX0_current 8 = .ok (.laload, 1) := by decide +kernel
theorem dX0_current_9 : decode cX0_current 9 = .ok (.lreturn, 1) := by decide +kernel
theorem dX1_init_0 : decode cX1_init 0 = .ok (.aload_n 0, 1) := by decide +kernel
theorem dX1_init_1 : decode cX1_init 1 = .ok (.invokespecial 3, 3) := by decide +kernel
theorem dX1_init_4 : decode cX1_init 4 = .ok (.aload_n 0, 1) := by decide +kernel
theorem dX1_init_5 : decode cX1_init 5 = .ok (.sipush 270, 3) := by decide +kernel
theorem dX1_init_8 : decode cX1_init 8 = .ok (.newarray .int, 2) := by decide +kernel
theorem dX1_init_10 : decode cX1_init 10 = .ok (.putfield 9, 3) := by decide +kernel
theorem dX1_init_13 : decode cX1_init 13 = .ok (.aload_n 0, 1) := by decide +kernel
theorem dX1_init_14 : decode cX1_init 14 = .ok (.bipush 30, 2) := by decide +kernel
theorem dX1_init_16 : decode cX1_init 16 = .ok (.newarray .int, 2) := by decide +kernel
theorem dX1_init_18 : decode cX1_init 18 = .ok (.putfield 15, 3) := by decide +kernel
theorem dX1_init_21 : decode cX1_init 21 = .ok (.return_, 1) := by decide +kernel
theorem dX1_clear_0 : decode cX1_clear 0 = .ok (.aload_n 0, 1) := by decide +kernel
theorem dX1_clear_1 : decode cX1_clear 1 = .ok (.iconst 0, 1) := by decide +kernel
theorem dX1_clear_2 : decode cX1_clear 2 = .ok (.putfield 18, 3) := by decide +kernel
theorem dX1_clear_5 : decode cX1_clear 5 = .ok (.aload_n 0, 1) := by decide +kernel
theorem dX1_clear_6 : decode cX1_clear 6 = .ok (.iconst 0, 1) := by decide +kernel
theorem dX1_clear_7 : decode cX1_clear 7 = .ok (.putfield 22, 3) := by decide +kernel
theorem dX1_clear_10 : decode cX1_clear 10 = .ok (.aload_n 0, 1) := by decide +kernel
theorem dX1_clear_11 : decode cX1_clear 11 = .ok (.iconst 0, 1) := by decide +kernel
theorem dX1_clear_12 : decode cX1_clear 12 = .ok (.putfield 25, 3) := by decide +kernel
theorem dX1_clear_15 : decode cX1_clear 15 = .ok (.return_, 1) := by decide +kernel
theorem dX1_addNumber_0 : decode cX1_addNumber 0 = .ok (.aload_n 0, 1) := by decide +kernel
theorem dX1_addNumber_1 : decode cX1_addNumber 1 = .ok (.iload_n 1, 1) := by decide +kernel
theorem dX1_addNumber_2 : decode cX1_addNumber 2 = .ok (.invokevirtual 29, 3) := by decide +kernel
theorem dX1_addNumber_5 : decode cX1_addNumber 5 = .ok (.aload_n 0, 1) := by decide +kernel
theorem dX1_addNumber_6 : decode cX1_addNumber 6 = .ok (.dup, 1) := by decide +kernel
theorem dX1_addNumber_7 : decode cX1_addNumber 7 = .ok (.getfield 22, 3) := by decide +kernel
theorem dX1_addNumber_10 : decode cX1_addNumber 10 = .ok (.iconst 1, 1) := by decide +kernel
theorem dX1_addNumber_11 : decode cX1_addNumber 11 = .ok (.iadd, 1) := by decide +kernel
theorem dX1_addNumber_12 : decode cX1_addNumber 12 = .ok (.putfield 22, 3) := by decide +kernel
theorem dX1_addNumber_15 : decode cX1_addNumber 15 = .ok (.return_, 1) := by decide +kernel
theorem dX1_addUnit_0 : decode cX1_addUnit 0 = .ok (.aload_n 0, 1) := by decide +kernel
theorem dX1_addUnit_1 : decode cX1_addUnit 1 = .ok (.bipush (-100), 2) := by decide +kernel
theorem dX1_addUnit_3 : decode cX1_addUnit 3 = .ok (.iload_n 1, 1) := by decide +kernel
theorem dX1_addUnit_4 : decode cX1_addUnit 4 = .ok (.isub, 1) := by decide +kernel
theorem dX1_addUnit_5 : decode cX1_addUnit 5 = .ok (.invokevirtual 29, 3) := by decide +kernel
theorem dX1_addUnit_8 : decode cX1_addUnit 8 = .ok (.aload_n 0, 1) := by decide +kernel
theorem dX1_addUnit_9 : decode cX1_addUnit 9 = .ok (.dup, 1) := by decide +kernel
theorem dX1_addUnit_10 : decode cX1_addUnit 10 = .ok (.getfield 22, 3) := by decide +kernel
theorem dX1_addUnit_13 : decode cX1_addUnit 13 = .ok (.iconst 1, 1) := by decide +kernel
theorem dX1_addUnit_14 : decode cX1_addUnit 14 = .ok (.iadd, 1) := by decide +kernel
theorem dX1_addUnit_15 : decode cX1_addUnit 15 = .ok (.putfield 22, 3) := by decide +kernel
theorem dX1_addUnit_18 : decode cX1_addUnit 18 = .ok (.aload_n 0, 1) := by decide +kernel
theorem dX1_addUnit_19 : decode cX1_addUnit 19 = .ok (.dup, 1) := by decide +kernel
theorem dX1_addUnit_20 : decode cX1_addUnit 20 = .ok (.getfield 25, 3) := by decide +kernel
theorem dX1_addUnit_23 : decode cX1_addUnit 23 = .ok (.iload_n 1, 1) := by decide +kernel
theorem dX1_addUnit_24 : decode cX1_addUnit 24 = .ok (.bipush 18, 2) := by decide +kernel
theorem dX1_addUnit_26 : decode cX1_addUnit 26 = .ok (.if_icmp .ne 7, 3) := by decide +kernel
theorem dX1_addUnit_29 : decode cX1_addUnit 29 = .ok (.iconst 1, 1) := by decide +kernel
theorem dX1_addUnit_30 : decode cX1_addUnit 30 = .ok (.goto 4, 3) := by decide +kernel
theorem dX1_addUnit_33 : decode cX1_addUnit 33 = .ok (.iconst 0, 1) := by decide +kernel
theorem dX1_addUnit_34 : decode cX1_addUnit 34 = .ok (.ior, 1) := by decide +kernel
theorem dX1_addUnit_35 : decode cX1_addUnit 35 = .ok (.putfield 25, 3) := by decide +kernel
theorem dX1_addUnit_38 : decode cX1_addUnit 38 = .ok (.return_, 1) := by decide +kernel
theorem dX1_addDeed_0 : decode cX1_addDeed 0 = .ok (.aload_n 0, 1) := by decide +kernel
theorem dX1_addDeed_1 : decode cX1_addDeed 1 = .ok (.bipush (-100), 2) := by decide +kernel
theorem dX1_addDeed_3 : decode cX1_addDeed 3 = .ok (.iload_n 1, 1) := by decide +kernel
theorem dX1_addDeed_4 : decode cX1_addDeed 4 = .ok (.isub, 1) := by decide +kernel
theorem dX1_addDeed_5 : decode cX1_addDeed 5 = .ok (.invokevirtual 29, 3) := by decide +kernel
theorem dX1_addDeed_8 : decode cX1_addDeed 8 = .ok (.return_, 1) := by decide +kernel
theorem dX1_put_0 : decode cX1_put 0 = .ok (.aload_n 0, 1) := by decide +kernel
theorem dX1_put_1 : decode cX1_put 1 = .ok (.getfield 18, 3) := by decide +kernel
theorem dX1_put_4 : decode cX1_put 4 = .ok (.aload_n 0, 1) := by decide +kernel
theorem dX1_put_5 : decode cX1_put 5 = .ok (.getfield 9, 3) := by decide +kernel
theorem dX1_put_8 : decode cX1_put 8 = .ok (.arraylength, 1) := by decide +kernel
theorem dX1_put_9 : decode cX1_put 9 = .ok (.if_icmp .ge 23, 3) := by decide +kernel
theorem dX1_put_12 : decode cX1_put 12 = .ok (.aload_n 0, 1) := by decide +kernel
theorem dX1_put_13 : decode cX1_put 13 = .ok (.getfield 9, 3) := by decide +kernel
theorem dX1_put_16 : decode cX1_put 16 = .ok (.aload_n 0, 1) := by decide +kernel
theorem dX1_put_17 : decode cX1_put 17 = .ok (.getfield 18, 3) := by decide +kernel
theorem dX1_put_20 : decode cX1_put 20 = .ok (.iload_n 1, 1) := by decide +kernel
theorem dX1_put_21 : decode cX1_put 21 = .ok (.iastore, 1) := by decide +kernel
theorem dX1_put_22 : decode cX1_put 22 = .ok (.aload_n 0, 1) := by decide +kernel
theorem dX1_put_23 : decode cX1_put 23 = .ok (.dup, 1) := by decide +kernel
theorem dX1_put_24 : decode cX1_put 24 = .ok (.getfield 18, 3) := by decide +kernel
theorem dX1_put_27 : decode cX1_put 27 = .ok (.iconst 1, 1) := by decide +kernel
theorem dX1_put_28 : decode cX1_put 28 = .ok (.iadd, 1) := by decide +kernel
theorem dX1_put_29 : decode cX1_put 29 = .ok (.putfield 18, 3) := by decide +kernel
theorem dX1_put_32 : decode cX1_put 32 = .ok (.return_, 1) := by decide +kernel
theorem dX1_valueFor_0 : decode cX1_valueFor 0 = .ok (.iconst 0, 1) := by decide +kernel
theorem dX1_valueFor_1 : decode cX1_valueFor 1 = .ok (.istore 4, 2) := by decide +kernel
theorem dX1_valueFor_3 : decode cX1_valueFor 3 = .ok (.iconst 0, 1) := by decide +kernel
theorem dX1_valueFor_4 : decode cX1_valueFor 4 = .ok (.istore 5, 2) := by decide +kernel
theorem dX1_valueFor_6 : decode cX1_valueFor 6 = .ok (.iload 5, 2) := by decide +kernel
theorem dX1_valueFor_8 : decode cX1_valueFor 8 = .ok (.aload_n 0, 1) := by decide +kernel
theorem dX1_valueFor_9 : decode cX1_valueFor 9 = .ok (.getfield 18, 3) := by decide +kernel
theorem dX1_valueFor_12 : decode cX1_valueFor 12 = .ok (.if_icmp .ge 191, 3) := by decide +kernel
theorem dX1_valueFor_15 : decode cX1_valueFor 15 = .ok (.bipush (-100), 2) := by decide +kernel
theorem dX1_valueFor_17 : decode cX1_valueFor 17 = .ok (.aload_n 0, 1) := by decide +kernel
theorem dX1_valueFor_18 : decode cX1_valueFor 18 = .ok (.getfield 9, 3) := by decide +kernel
theorem dX1_valueFor_21 : decode cX1_valueFor 21 = .ok (.iload 5, 2) := by decide +kernel
theorem dX1_valueFor_23 : decode cX1_valueFor 23 = .ok (.iaload, 1) := by decide +kernel
theorem dX1_valueFor_24 : decode cX1_valueFor 24 = .ok (.isub, 1) := by decide +kernel
theorem dX1_valueFor_25 : decode cX1_valueFor 25 = .ok (.istore 6, 2) := by decide +kernel
theorem dX1_valueFor_27 : decode cX1_valueFor 27 = .ok (.iload 6, 2) := by decide +kernel
theorem dX1_valueFor_29 : decode cX1_valueFor 29 = .ok (.bipush 15, 2) := by decide +kernel
theorem dX1_valueFor_31 : decode cX1_valueFor 31 = .ok (.if_icmp .ne 37, 3) := by decide +kernel
theorem dX1_valueFor_34 : decode cX1_valueFor 34 = .ok (.iload 4, 2) := by decide +kernel
theorem dX1_valueFor_36 : decode cX1_valueFor 36 = .ok (.ifCond .le 161, 3) := by decide +kernel
theorem dX1_valueFor_39 : decode cX1_valueFor 39 = .ok (.aload_n 0, 1) := by decide +kernel
theorem dX1_valueFor_40 : decode cX1_valueFor 40 = .ok (.getfield 15, 3) := by decide +kernel
theorem dX1_valueFor_43 : decode cX1_valueFor 43 = .ok (.iload 4, 2) := by decide +kernel
theorem dX1_valueFor_45 : decode cX1_valueFor 45 = .ok (.iconst 1, 1) := by decide +kernel
theorem dX1_valueFor_46 : decode cX1_valueFor 46 = .ok (.isub, 1) := by decide +kernel
theorem dX1_valueFor_47 : decode cX1_valueFor 47 = .ok (.aload_n 0, 1) := by decide +kernel
theorem dX1_valueFor_48 : decode cX1_valueFor 48 = .ok (.getfield 15, 3) := by decide +kernel
theorem dX1_valueFor_51 : decode cX1_valueFor 51 = .ok (.iload 4, 2) := by decide +kernel
theorem dX1_valueFor_53 : decode cX1_valueFor 53 = .ok (.iconst 1, 1) := by decide +kernel
theorem dX1_valueFor_54 : decode cX1_valueFor 54 = .ok (.isub, 1) := by decide +kernel
theorem dX1_valueFor_55 : decode cX1_valueFor 55 = .ok (.iaload, 1) := by decide +kernel
theorem dX1_valueFor_56 : decode cX1_valueFor 56 = .ok (.ifCond .ne 7, 3) := by decide +kernel
theorem dX1_valueFor_59 : decode cX1_valueFor 59 = .ok (.iconst 1, 1) := by decide +kernel
theorem dX1_valueFor_60 : decode cX1_valueFor 60 = .ok (.goto 4, 3) := by decide +kernel
theorem dX1_valueFor_63 : decode cX1_valueFor 63 = .ok (.iconst 0, 1) := by decide +kernel
theorem dX1_valueFor_64 : decode cX1_valueFor 64 = .ok (.iastore, 1) := by decide +kernel
theorem dX1_valueFor_65 : decode cX1_valueFor 65 = .ok (.goto 132, 3) := by decide +kernel
theorem dX1_valueFor_68 : decode cX1_valueFor 68 = .ok (.aload_n 0, 1) := by decide +kernel
theorem dX1_valueFor_69 : decode cX1_valueFor 69 = .ok (.getfield 9, 3) := by decide +kernel
theorem dX1_valueFor_72 : decode cX1_valueFor 72 = .ok (.iload 5, 2) := by decide +kernel
theorem dX1_valueFor_74 : decode cX1_valueFor 74 = .ok (.iaload, 1) := by decide +kernel
theorem dX1_valueFor_75 : decode cX1_valueFor 75 = .ok (.ifCond .ge 17, 3) := by decide +kernel
theorem dX1_valueFor_78 : decode cX1_valueFor 78 = .ok (.iload 6, 2) := by decide +kernel
theorem dX1_valueFor_80 : decode cX1_valueFor 80 = .ok (.bipush 16, 2) := by decide +kernel
theorem dX1_valueFor_82 : decode cX1_valueFor 82 = .ok (.if_icmp .lt 76, 3) := by decide +kernel
theorem dX1_valueFor_85 : decode cX1_valueFor 85 = .ok (.iload 6, 2) := by decide +kernel
theorem dX1_valueFor_87 : decode cX1_valueFor 87 = .ok (.bipush 18, 2) := by decide +kernel
theorem dX1_valueFor_89 : decode cX1_valueFor 89 = .ok (.if_icmp .gt 69, 3) := by decide +kernel
theorem dX1_valueFor_92 : decode cX1_valueFor 92 = .ok (.iload 4, 2) := by decide +kernel
theorem dX1_valueFor_94 : decode cX1_valueFor 94 = .ok (.aload_n 0, 1) := by decide +kernel
theorem dX1_valueFor_95 : decode cX1_valueFor 95 = .ok (.getfield 15, 3) := by decide +kernel
theorem dX1_valueFor_98 : decode cX1_valueFor 98 = .ok (.arraylength, 1) := by decide +kernel
theorem dX1_valueFor_99 : decode cX1_valueFor 99 = .ok (.if_icmp .ge 98, 3) := by decide +kernel
theorem dX1_valueFor_102 : decode cX1_valueFor 102 = .ok (.aload_n 0, 1) := by decide +kernel
theorem dX1_valueFor_103 : decode cX1_valueFor 103 = .ok (.getfield 15, 3) := by decide +kernel
theorem dX1_valueFor_106 : decode cX1_valueFor 106 = .ok (.iload 4, 2) := by decide +kernel
theorem dX1_valueFor_108 : decode cX1_valueFor 108 = .ok (.aload_n 0, 1) := by decide +kernel
theorem dX1_valueFor_109 : decode cX1_valueFor 109 = .ok (.getfield 9, 3) := by decide +kernel
theorem dX1_valueFor_112 : decode cX1_valueFor 112 = .ok (.iload 5, 2) := by decide +kernel
theorem dX1_valueFor_114 : decode cX1_valueFor 114 = .ok (.iaload, 1) := by decide +kernel
theorem dX1_valueFor_115 : decode cX1_valueFor 115 = .ok (.ifCond .lt 13, 3) := by decide +kernel
theorem dX1_valueFor_118 : decode cX1_valueFor 118 = .ok (.aload_n 0, 1) := by decide +kernel
theorem dX1_valueFor_119 : decode cX1_valueFor 119 = .ok (.getfield 9, 3) := by decide +kernel
theorem dX1_valueFor_122 : decode cX1_valueFor 122 = .ok (.iload 5, 2) := by decide +kernel
theorem dX1_valueFor_124 : decode cX1_valueFor 124 = .ok (.iaload, 1) := by decide +kernel
theorem dX1_valueFor_125 : decode cX1_valueFor 125 = .ok (.goto 26, 3) := by decide +kernel
theorem dX1_valueFor_128 : decode cX1_valueFor 128 = .ok (.iload 6, 2) := by decide +kernel
theorem dX1_valueFor_130 : decode cX1_valueFor 130 = .ok (.bipush 16, 2) := by decide +kernel
theorem dX1_valueFor_132 : decode cX1_valueFor 132 = .ok (.if_icmp .ne 7, 3) := by decide +kernel
theorem dX1_valueFor_135 : decode cX1_valueFor 135 = .ok (.iload_n 1, 1) := by decide +kernel
theorem dX1_valueFor_136 : decode cX1_valueFor 136 = .ok (.goto 15, 3) := by decide +kernel
theorem dX1_valueFor_139 : decode cX1_valueFor 139 = .ok (.iload 6, 2) := by decide +kernel
theorem dX1_valueFor_141 : decode cX1_valueFor 141 = .ok (.bipush 17, 2) := by decide +kernel
theorem dX1_valueFor_143 : decode cX1_valueFor 143 = .ok (.if_icmp .ne 7, 3) := by decide +kernel
theorem dX1_valueFor_146 : decode cX1_valueFor 146 = .ok (.iload_n 2, 1) := by decide +kernel
theorem dX1_valueFor_147 : decode cX1_valueFor 147 = .ok (.goto 4, 3) := by decide +kernel
theorem dX1_valueFor_150 : decode cX1_valueFor 150 = .ok (.iload_n 3, 1) := by decide +kernel
theorem dX1_valueFor_151 : decode cX1_valueFor 151 = .ok (.iastore, 1) := by decide +kernel
theorem dX1_valueFor_152 : decode cX1_valueFor 152 = .ok (.iinc 4 1, 3) := by decide +kernel
theorem dX1_valueFor_155 : decode cX1_valueFor 155 = .ok (.goto 42, 3) := by decide +kernel
theorem dX1_valueFor_158 : decode cX1_valueFor 158 = .ok (.iload 4, 2) := by decide +kernel
theorem dX1_valueFor_160 : decode cX1_valueFor 160 = .ok (.iconst 1, 1) := by decide +kernel
theorem dX1_valueFor_161 : decode cX1_valueFor 161 = .ok (.if_icmp .le 36, 3) := by decide +kernel
theorem dX1_valueFor_164 : decode cX1_valueFor 164 = .ok (.iinc 4 (-1), 3) := by decide +kernel
theorem dX1_valueFor_167 : decode cX1_valueFor 167 = .ok (.aload_n 0, 1) := by decide +kernel
theorem dX1_valueFor_168 : decode cX1_valueFor 168 = .ok (.getfield 15, 3) := by decide +kernel
theorem dX1_valueFor_171 : decode cX1_valueFor 171 = .ok (.iload 4, 2) := by decide +kernel
theorem dX1_valueFor_173 : decode cX1_valueFor 173 = .ok (.iconst 1, 1) := by decide +kernel
theorem dX1_valueFor_174 : decode cX1_valueFor 174 = .ok (.isub, 1) := by decide +kernel
theorem dX1_valueFor_175 : decode cX1_valueFor 175 = .ok (.iload 6, 2) := by decide +kernel
theorem dX1_valueFor_177 : decode cX1_valueFor 177 = .ok (.aload_n 0, 1) := by decide +kernel
theorem dX1_valueFor_178 : decode cX1_valueFor 178 = .ok (.getfield 15, 3) := by decide +kernel
theorem dX1_valueFor_181 : decode cX1_valueFor 181 = .ok (.iload 4, 2) := by decide +kernel
theorem dX1_valueFor_183 : decode cX1_valueFor 183 = .ok (.iconst 1, 1) := by decide +kernel
theorem dX1_valueFor_184 : decode cX1_valueFor 184 = .ok (.isub, 1) := by decide +kernel
theorem dX1_valueFor_185 : decode cX1_valueFor 185 = .ok (.iaload, 1) := by decide +kernel
theorem dX1_valueFor_186 : decode cX1_valueFor 186 = .ok (.aload_n 0, 1) := by decide +kernel
theorem dX1_valueFor_187 : decode cX1_valueFor 187 = .ok (.getfield 15, 3) := by decide +kernel
theorem dX1_valueFor_190 : decode cX1_valueFor 190 = .ok (.iload 4, 2) := by decide +kernel
theorem dX1_valueFor_192 : decode cX1_valueFor 192 = .ok (.iaload, 1) := by decide +kernel
theorem dX1_valueFor_193 : decode cX1_valueFor 193 = .ok (.invokestatic 33, 3) := by decide +kernel
theorem dX1_valueFor_196 : decode cX1_valueFor 196 = .ok (.iastore, 1) := by decide +kernel
theorem dX1_valueFor_197 : decode cX1_valueFor 197 = .ok (.iinc 5 1, 3) := by decide +kernel
theorem dX1_valueFor_200 : decode cX1_valueFor 200 = .ok (.goto (-194), 3) := by decide +kernel
theorem dX1_valueFor_203 : decode cX1_valueFor 203 = .ok (.iload 4, 2) := by decide +kernel
theorem dX1_valueFor_205 : decode cX1_valueFor 205 = .ok (.ifCond .le 12, 3) := by decide +kernel
theorem dX1_valueFor_208 : decode cX1_valueFor 208 = .ok (.aload_n 0, 1) := by decide +kernel
theorem dX1_valueFor_209 : decode cX1_valueFor 209 = .ok (.getfield 15, 3) := by decide +kernel
theorem dX1_valueFor_212 : decode cX1_valueFor 212 = .ok (.iconst 0, 1) := by decide +kernel
theorem dX1_valueFor_213 : decode cX1_valueFor 213 = .ok (.iaload, 1) := by decide +kernel
theorem dX1_valueFor_214 : decode cX1_valueFor 214 = .ok (.goto 4, 3) := by decide +kernel
theorem dX1_valueFor_217 : decode cX1_valueFor 217 = .ok (.iconst 0, 1) := by decide +kernel
theorem dX1_valueFor_218 : decode cX1_valueFor 218 = .ok (.ireturn, 1) := by decide +kernel
theorem dX1_outcome_0 : decode cX1_outcome 0 = .ok (.iload_n 0, 1) := by decide +kernel
theorem dX1_outcome_1 : decode cX1_outcome 1 = .ok (.lookupswitch 166 #[(14, 152), (37, 107), (42, 91), (43, 83), (45, 87), (47, 95), (60, 119), (61, 141), (62, 130)], 83) := by decide +kernel
theorem dX1_outcome_84 : decode cX1_outcome 84 = .ok (.iload_n 1, 1) := by decide +kernel
theorem dX1_outcome_85 : decode cX1_outcome 85 = .ok (.iload_n 2, 1) := by decide +kernel
theorem dX1_outcome_86 : decode cX1_outcome 86 = .ok (.iadd, 1) := by decide +kernel
theorem dX1_outcome_87 : decode cX1_outcome 87 = .ok (.ireturn, 1) := by decide +kernel
theorem dX1_outcome_88 : decode cX1_outcome 88 = .ok (.iload_n 1, 1) := by decide +kernel
theorem dX1_outcome_89 : decode cX1_outcome 89 = .ok (.iload_n 2, 1) := by decide +kernel
theorem dX1_outcome_90 : decode cX1_outcome 90 = .ok (.isub, 1) := by decide +kernel
theorem dX1_outcome_91 : decode cX1_outcome 91 = .ok (.ireturn, 1) := by decide +kernel
theorem dX1_outcome_92 : decode cX1_outcome 92 = .ok (.iload_n 1, 1) := by decide +kernel
theorem dX1_outcome_93 : decode cX1_outcome 93 = .ok (.iload_n 2, 1) := by decide +kernel
theorem dX1_outcome_94 : decode cX1_outcome 94 = .ok (.imul, 1) := by decide +kernel
theorem dX1_outcome_95 : decode cX1_outcome 95 = .ok (.ireturn, 1) := by decide +kernel
theorem dX1_outcome_96 : decode cX1_outcome 96 = .ok (.iload_n 2, 1) := by decide +kernel
theorem dX1_outcome_97 : decode cX1_outcome 97 = .ok (.ifCond .ne 7, 3) := by decide +kernel
theorem dX1_outcome_100 : decode cX1_outcome 100 = .ok (.iconst 0, 1) := by decide +kernel
theorem dX1_outcome_101 : decode cX1_outcome 101 = .ok (.goto 6, 3) := by decide +kernel
theorem dX1_outcome_104 : decode cX1_outcome 104 = .ok (.iload_n 1, 1) := by decide +kernel
theorem dX1_outcome_105 : decode cX1_outcome 105 = .ok (.iload_n 2, 1) := by decide +kernel
theorem dX1_outcome_106 : decode cX1_outcome 106 = .ok (.idiv, 1) := by decide +kernel
theorem dX1_outcome_107 : decode cX1_outcome 107 = .ok (.ireturn, 1) := by decide +kernel
theorem dX1_outcome_108 : decode cX1_outcome 108 = .ok (.iload_n 2, 1) := by decide +kernel
theorem dX1_outcome_109 : decode cX1_outcome 109 = .ok (.ifCond .ne 7, 3) := by decide +kernel
theorem dX1_outcome_112 : decode cX1_outcome 112 = .ok (.iconst 0, 1) := by decide +kernel
theorem dX1_outcome_113 : decode cX1_outcome 113 = .ok (.goto 6, 3) := by decide +kernel
theorem dX1_outcome_116 : decode cX1_outcome 116 = .ok (.iload_n 1, 1) := by decide +kernel
theorem dX1_outcome_117 : decode cX1_outcome 117 = .ok (.iload_n 2, 1) := by decide +kernel
theorem dX1_outcome_118 : decode cX1_outcome 118 = .ok (.irem, 1) := by decide +kernel
theorem dX1_outcome_119 : decode cX1_outcome 119 = .ok (.ireturn, 1) := by decide +kernel
theorem dX1_outcome_120 : decode cX1_outcome 120 = .ok (.iload_n 1, 1) := by decide +kernel
theorem dX1_outcome_121 : decode cX1_outcome 121 = .ok (.iload_n 2, 1) := by decide +kernel
theorem dX1_outcome_122 : decode cX1_outcome 122 = .ok (.if_icmp .ge 7, 3) := by decide +kernel
theorem dX1_outcome_125 : decode cX1_outcome 125 = .ok (.iconst 1, 1) := by decide +kernel
theorem dX1_outcome_126 : decode cX1_outcome 126 = .ok (.goto 4, 3) := by decide +kernel
theorem dX1_outcome_129 : decode cX1_outcome 129 = .ok (.iconst 0, 1) := by decide +kernel
theorem dX1_outcome_130 : decode cX1_outcome 130 = .ok (.ireturn, 1) := by decide +kernel
theorem dX1_outcome_131 : decode cX1_outcome 131 = .ok (.iload_n 1, 1) := by decide +kernel
theorem dX1_outcome_132 : decode cX1_outcome 132 = .ok (.iload_n 2, 1) := by decide +kernel
theorem dX1_outcome_133 : decode cX1_outcome 133 = .ok (.if_icmp .le 7, 3) := by decide +kernel
theorem dX1_outcome_136 : decode cX1_outcome 136 = .ok (.iconst 1, 1) := by decide +kernel
theorem dX1_outcome_137 : decode cX1_outcome 137 = .ok (.goto 4, 3) := by decide +kernel
theorem dX1_outcome_140 : decode cX1_outcome 140 = .ok (.iconst 0, 1) := by decide +kernel
theorem dX1_outcome_141 : decode cX1_outcome 141 = .ok (.ireturn, 1) := by decide +kernel
theorem dX1_outcome_142 : decode cX1_outcome 142 = .ok (.iload_n 1, 1) := by decide +kernel
theorem dX1_outcome_143 : decode cX1_outcome 143 = .ok (.iload_n 2, 1) := by decide +kernel
theorem dX1_outcome_144 : decode cX1_outcome 144 = .ok (.if_icmp .ne 7, 3) := by decide +kernel
theorem dX1_outcome_147 : decode cX1_outcome 147 = .ok (.iconst 1, 1) := by decide +kernel
theorem dX1_outcome_148 : decode cX1_outcome 148 = .ok (.goto 4, 3) := by decide +kernel
theorem dX1_outcome_151 : decode cX1_outcome 151 = .ok (.iconst 0, 1) := by decide +kernel
theorem dX1_outcome_152 : decode cX1_outcome 152 = .ok (.ireturn, 1) := by decide +kernel
theorem dX1_outcome_153 : decode cX1_outcome 153 = .ok (.iload_n 1, 1) := by decide +kernel
theorem dX1_outcome_154 : decode cX1_outcome 154 = .ok (.ifCond .eq 11, 3) := by decide +kernel
theorem dX1_outcome_157 : decode cX1_outcome 157 = .ok (.iload_n 2, 1) := by decide +kernel
theorem dX1_outcome_158 : decode cX1_outcome 158 = .ok (.ifCond .eq 7, 3) := by decide +kernel
theorem dX1_outcome_161 : decode cX1_outcome 161 = .ok (.iconst 1, 1) := by decide +kernel
theorem dX1_outcome_162 : decode cX1_outcome 162 = .ok (.goto 4, 3) := by decide +kernel
theorem dX1_outcome_165 : decode cX1_outcome 165 = .ok (.iconst 0, 1) := by decide +kernel
theorem dX1_outcome_166 : decode cX1_outcome 166 = .ok (.ireturn, 1) := by decide +kernel
theorem dX1_outcome_167 : decode cX1_outcome 167 = .ok (.iload_n 1, 1) := by decide +kernel
theorem dX1_outcome_168 : decode cX1_outcome 168 = .ok (.ifCond .ne 7, 3) := by decide +kernel
theorem dX1_outcome_171 : decode cX1_outcome 171 = .ok (.iload_n 2, 1) := by decide +kernel
theorem dX1_outcome_172 : decode cX1_outcome 172 = .ok (.ifCond .eq 7, 3) := by decide +kernel
theorem dX1_outcome_175 : decode cX1_outcome 175 = .ok (.iconst 1, 1) := by decide +kernel
theorem dX1_outcome_176 : decode cX1_outcome 176 = .ok (.goto 4, 3) := by decide +kernel
theorem dX1_outcome_179 : decode cX1_outcome 179 = .ok (.iconst 0, 1) := by decide +kernel
theorem dX1_outcome_180 : decode cX1_outcome 180 = .ok (.ireturn, 1) := by decide +kernel
theorem dX2_init_0 : decode cX2_init 0 = .ok (.aload_n 0, 1) := by decide +kernel
theorem dX2_init_1 : decode cX2_init 1 = .ok (.invokespecial 3, 3) := by decide +kernel
theorem dX2_init_4 : decode cX2_init 4 = .ok (.aload_n 0, 1) := by decide +kernel
theorem dX2_init_5 : decode cX2_init 5 = .ok (.aload_n 1, 1) := by decide +kernel
theorem dX2_init_6 : decode cX2_init 6 = .ok (.putfield 9, 3) := by decide +kernel
theorem dX2_init_9 : decode cX2_init 9 = .ok (.aload_n 0, 1) := by decide +kernel
theorem dX2_init_10 : decode cX2_init 10 = .ok (.aload_n 2, 1) := by decide +kernel
theorem dX2_init_11 : decode cX2_init 11 = .ok (.putfield 15, 3) := by decide +kernel
theorem dX2_init_14 : decode cX2_init 14 = .ok (.return_, 1) := by decide +kernel
theorem dX2_readFormula_0 : decode cX2_readFormula 0 = .ok (.aload_n 0, 1) := by decide +kernel
theorem dX2_readFormula_1 : decode cX2_readFormula 1 = .ok (.aload_n 1, 1) := by decide +kernel
theorem dX2_readFormula_2 : decode cX2_readFormula 2 = .ok (.putfield 15, 3) := by decide +kernel
theorem dX2_readFormula_5 : decode cX2_readFormula 5 = .ok (.aload_n 0, 1) := by decide +kernel
theorem dX2_readFormula_6 : decode cX2_readFormula 6 = .ok (.iconst 0, 1) := by decide +kernel
theorem dX2_readFormula_7 : decode cX2_readFormula 7 = .ok (.invokevirtual 19, 3) := by decide +kernel
theorem dX2_readFormula_10 : decode cX2_readFormula 10 = .ok (.ireturn, 1) := by decide +kernel
theorem dX2_readEither_0 : decode cX2_readEither 0 = .ok (.aload_n 0, 1) := by decide +kernel
theorem dX2_readEither_1 : decode cX2_readEither 1 = .ok (.iload_n 1, 1) := by decide +kernel
theorem dX2_readEither_2 : decode cX2_readEither 2 = .ok (.invokevirtual 23, 3) := by decide +kernel
theorem dX2_readEither_5 : decode cX2_readEither 5 = .ok (.istore_n 2, 1) := by decide +kernel
theorem dX2_readEither_6 : decode cX2_readEither 6 = .ok (.iconst 0, 1) := by decide +kernel
theorem dX2_readEither_7 : decode cX2_readEither 7 = .ok (.istore_n 3, 1) := by decide +kernel
theorem dX2_readEither_8 : decode cX2_readEither 8 = .ok (.iload_n 3, 1) := by decide +kernel
theorem dX2_readEither_9 : decode cX2_readEither 9 = .ok (.bipush 30, 2) := by decide +kernel
theorem dX2_readEither_11 : decode cX2_readEither 11 = .ok (.if_icmp .ge 47, 3) := by decide +kernel
theorem dX2_readEither_14 : decode cX2_readEither 14 = .ok (.iload_n 2, 1) := by decide +kernel
theorem dX2_readEither_15 : decode cX2_readEither 15 = .ok (.ifCond .eq 43, 3) := by decide +kernel
theorem dX2_readEither_18 : decode cX2_readEither 18 = .ok (.aload_n 0, 1) := by decide +kernel
theorem dX2_readEither_19 : decode cX2_readEither 19 = .ok (.getfield 9, 3) := by decide +kernel
theorem dX2_readEither_22 : decode cX2_readEither 22 = .ok (.getfield 26, 3) := by decide +kernel
theorem dX2_readEither_25 : decode cX2_readEither 25 = .ok (.bipush 13, 2) := by decide +kernel
theorem dX2_readEither_27 : decode cX2_readEither 27 = .ok (.if_icmp .ne 31, 3) := by decide +kernel
theorem dX2_readEither_30 : decode cX2_readEither 30 = .ok (.aload_n 0, 1) := by decide +kernel
theorem dX2_readEither_31 : decode cX2_readEither 31 = .ok (.getfield 9, 3) := by decide +kernel
theorem dX2_readEither_34 : decode cX2_readEither 34 = .ok (.invokevirtual 32, 3) := by decide +kernel
theorem dX2_readEither_37 : decode cX2_readEither 37 = .ok (.aload_n 0, 1) := by decide +kernel
theorem dX2_readEither_38 : decode cX2_readEither 38 = .ok (.iload_n 1, 1) := by decide +kernel
theorem dX2_readEither_39 : decode cX2_readEither 39 = .ok (.invokevirtual 23, 3) := by decide +kernel
theorem dX2_readEither_42 : decode cX2_readEither 42 = .ok (.istore_n 2, 1) := by decide +kernel
theorem dX2_readEither_43 : decode cX2_readEither 43 = .ok (.aload_n 0, 1) := by decide +kernel
theorem dX2_readEither_44 : decode cX2_readEither 44 = .ok (.getfield 15, 3) := by decide +kernel
theorem dX2_readEither_47 : decode cX2_readEither 47 = .ok (.bipush 13, 2) := by decide +kernel
theorem dX2_readEither_49 : decode cX2_readEither 49 = .ok (.invokevirtual 35, 3) := by decide +kernel
theorem dX2_readEither_52 : decode cX2_readEither 52 = .ok (.iinc 3 1, 3) := by decide +kernel
theorem dX2_readEither_55 : decode cX2_readEither 55 = .ok (.goto (-47), 3) := by decide +kernel
theorem dX2_readEither_58 : decode cX2_readEither 58 = .ok (.iload_n 2, 1) := by decide +kernel
theorem dX2_readEither_59 : decode cX2_readEither 59 = .ok (.ireturn, 1) := by decide +kernel
theorem dX2_readBoth_0 : decode cX2_readBoth 0 = .ok (.aload_n 0, 1) := by decide +kernel
theorem dX2_readBoth_1 : decode cX2_readBoth 1 = .ok (.iload_n 1, 1) := by decide +kernel
theorem dX2_readBoth_2 : decode cX2_readBoth 2 = .ok (.invokevirtual 41, 3) := by decide +kernel
theorem dX2_readBoth_5 : decode cX2_readBoth 5 = .ok (.istore_n 2, 1) := by decide +kernel
theorem dX2_readBoth_6 : decode cX2_readBoth 6 = .ok (.iconst 0, 1) := by decide +kernel
theorem dX2_readBoth_7 : decode cX2_readBoth 7 = .ok (.istore_n 3, 1) := by decide +kernel
theorem dX2_readBoth_8 : decode cX2_readBoth 8 = .ok (.iload_n 3, 1) := by decide +kernel
theorem dX2_readBoth_9 : decode cX2_readBoth 9 = .ok (.bipush 30, 2) := by decide +kernel
theorem dX2_readBoth_11 : decode cX2_readBoth 11 = .ok (.if_icmp .ge 47, 3) := by decide +kernel
theorem dX2_readBoth_14 : decode cX2_readBoth 14 = .ok (.iload_n 2, 1) := by decide +kernel
theorem dX2_readBoth_15 : decode cX2_readBoth 15 = .ok (.ifCond .eq 43, 3) := by decide +kernel
theorem dX2_readBoth_18 : decode cX2_readBoth 18 = .ok (.aload_n 0, 1) := by decide +kernel
theorem dX2_readBoth_19 : decode cX2_readBoth 19 = .ok (.getfield 9, 3) := by decide +kernel
theorem dX2_readBoth_22 : decode cX2_readBoth 22 = .ok (.getfield 26, 3) := by decide +kernel
theorem dX2_readBoth_25 : decode cX2_readBoth 25 = .ok (.bipush 14, 2) := by decide +kernel
theorem dX2_readBoth_27 : decode cX2_readBoth 27 = .ok (.if_icmp .ne 31, 3) := by decide +kernel
theorem dX2_readBoth_30 : decode cX2_readBoth 30 = .ok (.aload_n 0, 1) := by decide +kernel
theorem dX2_readBoth_31 : decode cX2_readBoth 31 = .ok (.getfield 9, 3) := by decide +kernel
theorem dX2_readBoth_34 : decode cX2_readBoth 34 = .ok (.invokevirtual 32, 3) := by decide +kernel
theorem dX2_readBoth_37 : decode cX2_readBoth 37 = .ok (.aload_n 0, 1) := by decide +kernel
theorem dX2_readBoth_38 : decode cX2_readBoth 38 = .ok (.iload_n 1, 1) := by decide +kernel
theorem dX2_readBoth_39 : decode cX2_readBoth 39 = .ok (.invokevirtual 41, 3) := by decide +kernel
theorem dX2_readBoth_42 : decode cX2_readBoth 42 = .ok (.istore_n 2, 1) := by decide +kernel
theorem dX2_readBoth_43 : decode cX2_readBoth 43 = .ok (.aload_n 0, 1) := by decide +kernel
theorem dX2_readBoth_44 : decode cX2_readBoth 44 = .ok (.getfield 15, 3) := by decide +kernel
theorem dX2_readBoth_47 : decode cX2_readBoth 47 = .ok (.bipush 14, 2) := by decide +kernel
theorem dX2_readBoth_49 : decode cX2_readBoth 49 = .ok (.invokevirtual 35, 3) := by decide +kernel
theorem dX2_readBoth_52 : decode cX2_readBoth 52 = .ok (.iinc 3 1, 3) := by decide +kernel
theorem dX2_readBoth_55 : decode cX2_readBoth 55 = .ok (.goto (-47), 3) := by decide +kernel
theorem dX2_readBoth_58 : decode cX2_readBoth 58 = .ok (.iload_n 2, 1) := by decide +kernel
theorem dX2_readBoth_59 : decode cX2_readBoth 59 = .ok (.ireturn, 1) := by decide +kernel
theorem dX2_readOne_0 : decode cX2_readOne 0 = .ok (.aload_n 0, 1) := by decide +kernel
theorem dX2_readOne_1 : decode cX2_readOne 1 = .ok (.getfield 9, 3) := by decide +kernel
theorem dX2_readOne_4 : decode cX2_readOne 4 = .ok (.getfield 26, 3) := by decide +kernel
theorem dX2_readOne_7 : decode cX2_readOne 7 = .ok (.bipush 15, 2) := by decide +kernel
theorem dX2_readOne_9 : decode cX2_readOne 9 = .ok (.if_icmp .ne 37, 3) := by decide +kernel
theorem dX2_readOne_12 : decode cX2_readOne 12 = .ok (.iload_n 1, 1) := by decide +kernel
theorem dX2_readOne_13 : decode cX2_readOne 13 = .ok (.bipush 7, 2) := by decide +kernel
theorem dX2_readOne_15 : decode cX2_readOne 15 = .ok (.if_icmp .lt 5, 3) := by decide +kernel
theorem dX2_readOne_18 : decode cX2_readOne 18 = .ok (.iconst 0, 1) := by decide +kernel
theorem dX2_readOne_19 : decode cX2_readOne 19 = .ok (.ireturn, 1) := by decide +kernel
theorem dX2_readOne_20 : decode cX2_readOne 20 = .ok (.aload_n 0, 1) := by decide +kernel
theorem dX2_readOne_21 : decode cX2_readOne 21 = .ok (.getfield 9, 3) := by decide +kernel
theorem dX2_readOne_24 : decode cX2_readOne 24 = .ok (.invokevirtual 32, 3) := by decide +kernel
theorem dX2_readOne_27 : decode cX2_readOne 27 = .ok (.aload_n 0, 1) := by decide +kernel
theorem dX2_readOne_28 : decode cX2_readOne 28 = .ok (.iload_n 1, 1) := by decide +kernel
theorem dX2_readOne_29 : decode cX2_readOne 29 = .ok (.iconst 1, 1) := by decide +kernel
theorem dX2_readOne_30 : decode cX2_readOne 30 = .ok (.iadd, 1) := by decide +kernel
theorem dX2_readOne_31 : decode cX2_readOne 31 = .ok (.invokevirtual 41, 3) := by decide +kernel
theorem dX2_readOne_34 : decode cX2_readOne 34 = .ok (.istore_n 2, 1) := by decide +kernel
theorem dX2_readOne_35 : decode cX2_readOne 35 = .ok (.aload_n 0, 1) := by decide +kernel
theorem dX2_readOne_36 : decode cX2_readOne 36 = .ok (.getfield 15, 3) := by decide +kernel
theorem dX2_readOne_39 : decode cX2_readOne 39 = .ok (.bipush 15, 2) := by decide +kernel
theorem dX2_readOne_41 : decode cX2_readOne 41 = .ok (.invokevirtual 35, 3) := by decide +kernel
theorem dX2_readOne_44 : decode cX2_readOne 44 = .ok (.iload_n 2, 1) := by decide +kernel
theorem dX2_readOne_45 : decode cX2_readOne 45 = .ok (.ireturn, 1) := by decide +kernel
theorem dX2_readOne_46 : decode cX2_readOne 46 = .ok (.aload_n 0, 1) := by decide +kernel
theorem dX2_readOne_47 : decode cX2_readOne 47 = .ok (.iload_n 1, 1) := by decide +kernel
theorem dX2_readOne_48 : decode cX2_readOne 48 = .ok (.invokevirtual 44, 3) := by decide +kernel
theorem dX2_readOne_51 : decode cX2_readOne 51 = .ok (.ifCond .ne 5, 3) := by decide +kernel
theorem dX2_readOne_54 : decode cX2_readOne 54 = .ok (.iconst 0, 1) := by decide +kernel
theorem dX2_readOne_55 : decode cX2_readOne 55 = .ok (.ireturn, 1) := by decide +kernel
theorem dX2_readOne_56 : decode cX2_readOne 56 = .ok (.aload_n 0, 1) := by decide +kernel
theorem dX2_readOne_57 : decode cX2_readOne 57 = .ok (.getfield 9, 3) := by decide +kernel
theorem dX2_readOne_60 : decode cX2_readOne 60 = .ok (.getfield 26, 3) := by decide +kernel
theorem dX2_readOne_63 : decode cX2_readOne 63 = .ok (.istore_n 2, 1) := by decide +kernel
theorem dX2_readOne_64 : decode cX2_readOne 64 = .ok (.iload_n 2, 1) := by decide +kernel
theorem dX2_readOne_65 : decode cX2_readOne 65 = .ok (.bipush 60, 2) := by decide +kernel
theorem dX2_readOne_67 : decode cX2_readOne 67 = .ok (.if_icmp .eq 17, 3) := by decide +kernel
theorem dX2_readOne_70 : decode cX2_readOne 70 = .ok (.iload_n 2, 1) := by decide +kernel
theorem dX2_readOne_71 : decode cX2_readOne 71 = .ok (.bipush 62, 2) := by decide +kernel
theorem dX2_readOne_73 : decode cX2_readOne 73 = .ok (.if_icmp .eq 11, 3) := by decide +kernel
theorem dX2_readOne_76 : decode cX2_readOne 76 = .ok (.iload_n 2, 1) := by decide +kernel
theorem dX2_readOne_77 : decode cX2_readOne 77 = .ok (.bipush 61, 2) := by decide +kernel
theorem dX2_readOne_79 : decode cX2_readOne 79 = .ok (.if_icmp .eq 5, 3) := by decide +kernel
theorem dX2_readOne_82 : decode cX2_readOne 82 = .ok (.iconst 1, 1) := by decide +kernel
theorem dX2_readOne_83 : decode cX2_readOne 83 = .ok (.ireturn, 1) := by decide +kernel
theorem dX2_readOne_84 : decode cX2_readOne 84 = .ok (.aload_n 0, 1) := by decide +kernel
theorem dX2_readOne_85 : decode cX2_readOne 85 = .ok (.getfield 9, 3) := by decide +kernel
theorem dX2_readOne_88 : decode cX2_readOne 88 = .ok (.invokevirtual 32, 3) := by decide +kernel
theorem dX2_readOne_91 : decode cX2_readOne 91 = .ok (.aload_n 0, 1) := by decide +kernel
theorem dX2_readOne_92 : decode cX2_readOne 92 = .ok (.iload_n 1, 1) := by decide +kernel
theorem dX2_readOne_93 : decode cX2_readOne 93 = .ok (.invokevirtual 44, 3) := by decide +kernel
theorem dX2_readOne_96 : decode cX2_readOne 96 = .ok (.istore_n 3, 1) := by decide +kernel
theorem dX2_readOne_97 : decode cX2_readOne 97 = .ok (.aload_n 0, 1) := by decide +kernel
theorem dX2_readOne_98 : decode cX2_readOne 98 = .ok (.getfield 15, 3) := by decide +kernel
theorem dX2_readOne_101 : decode cX2_readOne 101 = .ok (.iload_n 2, 1) := by decide +kernel
theorem dX2_readOne_102 : decode cX2_readOne 102 = .ok (.invokevirtual 35, 3) := by decide +kernel
theorem dX2_readOne_105 : decode cX2_readOne 105 = .ok (.iload_n 3, 1) := by decide +kernel
theorem dX2_readOne_106 : decode cX2_readOne 106 = .ok (.ireturn, 1) := by decide +kernel
theorem dX2_readSum_0 : decode cX2_readSum 0 = .ok (.aload_n 0, 1) := by decide +kernel
theorem dX2_readSum_1 : decode cX2_readSum 1 = .ok (.iload_n 1, 1) := by decide +kernel
theorem dX2_readSum_2 : decode cX2_readSum 2 = .ok (.invokevirtual 47, 3) := by decide +kernel
theorem dX2_readSum_5 : decode cX2_readSum 5 = .ok (.istore_n 2, 1) := by decide +kernel
theorem dX2_readSum_6 : decode cX2_readSum 6 = .ok (.iconst 0, 1) := by decide +kernel
theorem dX2_readSum_7 : decode cX2_readSum 7 = .ok (.istore_n 3, 1) := by decide +kernel
theorem dX2_readSum_8 : decode cX2_readSum 8 = .ok (.iload_n 3, 1) := by decide +kernel
theorem dX2_readSum_9 : decode cX2_readSum 9 = .ok (.bipush 30, 2) := by decide +kernel
theorem dX2_readSum_11 : decode cX2_readSum 11 = .ok (.if_icmp .ge 61, 3) := by decide +kernel
theorem dX2_readSum_14 : decode cX2_readSum 14 = .ok (.iload_n 2, 1) := by decide +kernel
theorem dX2_readSum_15 : decode cX2_readSum 15 = .ok (.ifCond .eq 57, 3) := by decide +kernel
theorem dX2_readSum_18 : decode cX2_readSum 18 = .ok (.aload_n 0, 1) := by decide +kernel
theorem dX2_readSum_19 : decode cX2_readSum 19 = .ok (.getfield 9, 3) := by decide +kernel
theorem dX2_readSum_22 : decode cX2_readSum 22 = .ok (.getfield 26, 3) := by decide +kernel
theorem dX2_readSum_25 : decode cX2_readSum 25 = .ok (.istore 4, 2) := by decide +kernel
theorem dX2_readSum_27 : decode cX2_readSum 27 = .ok (.iload 4, 2) := by decide +kernel
theorem dX2_readSum_29 : decode cX2_readSum 29 = .ok (.bipush 43, 2) := by decide +kernel
theorem dX2_readSum_31 : decode cX2_readSum 31 = .ok (.if_icmp .eq 13, 3) := by decide +kernel
theorem dX2_readSum_34 : decode cX2_readSum 34 = .ok (.iload 4, 2) := by decide +kernel
theorem dX2_readSum_36 : decode cX2_readSum 36 = .ok (.bipush 45, 2) := by decide +kernel
theorem dX2_readSum_38 : decode cX2_readSum 38 = .ok (.if_icmp .eq 6, 3) := by decide +kernel
theorem dX2_readSum_41 : decode cX2_readSum 41 = .ok (.goto 31, 3) := by decide +kernel
theorem dX2_readSum_44 : decode cX2_readSum 44 = .ok (.aload_n 0, 1) := by decide +kernel
theorem dX2_readSum_45 : decode cX2_readSum 45 = .ok (.getfield 9, 3) := by decide +kernel
theorem dX2_readSum_48 : decode cX2_readSum 48 = .ok (.invokevirtual 32, 3) := by decide +kernel
theorem dX2_readSum_51 : decode cX2_readSum 51 = .ok (.aload_n 0, 1) := by decide +kernel
theorem dX2_readSum_52 : decode cX2_readSum 52 = .ok (.iload_n 1, 1) := by decide +kernel
theorem dX2_readSum_53 : decode cX2_readSum 53 = .ok (.invokevirtual 47, 3) := by decide +kernel
theorem dX2_readSum_56 : decode cX2_readSum 56 = .ok (.istore_n 2, 1) := by decide +kernel
theorem dX2_readSum_57 : decode cX2_readSum 57 = .ok (.aload_n 0, 1) := by decide +kernel
theorem dX2_readSum_58 : decode cX2_readSum 58 = .ok (.getfield 15, 3) := by decide +kernel
theorem dX2_readSum_61 : decode cX2_readSum 61 = .ok (.iload 4, 2) := by decide +kernel
theorem dX2_readSum_63 : decode cX2_readSum 63 = .ok (.invokevirtual 35, 3) := by decide +kernel
theorem dX2_readSum_66 : decode cX2_readSum 66 = .ok (.iinc 3 1, 3) := by decide +kernel
theorem dX2_readSum_69 : decode cX2_readSum 69 = .ok (.goto (-61), 3) := by decide +kernel
theorem dX2_readSum_72 : decode cX2_readSum 72 = .ok (.iload_n 2, 1) := by decide +kernel
theorem dX2_readSum_73 : decode cX2_readSum 73 = .ok (.ireturn, 1) := by decide +kernel
theorem dX2_readTerm_0 : decode cX2_readTerm 0 = .ok (.aload_n 0, 1) := by decide +kernel
theorem dX2_readTerm_1 : decode cX2_readTerm 1 = .ok (.iload_n 1, 1) := by decide +kernel
theorem dX2_readTerm_2 : decode cX2_readTerm 2 = .ok (.invokevirtual 50, 3) := by decide +kernel
theorem dX2_readTerm_5 : decode cX2_readTerm 5 = .ok (.istore_n 2, 1) := by decide +kernel
theorem dX2_readTerm_6 : decode cX2_readTerm 6 = .ok (.iconst 0, 1) := by decide +kernel
theorem dX2_readTerm_7 : decode cX2_readTerm 7 = .ok (.istore_n 3, 1) := by decide +kernel
theorem dX2_readTerm_8 : decode cX2_readTerm 8 = .ok (.iload_n 3, 1) := by decide +kernel
theorem dX2_readTerm_9 : decode cX2_readTerm 9 = .ok (.bipush 30, 2) := by decide +kernel
theorem dX2_readTerm_11 : decode cX2_readTerm 11 = .ok (.if_icmp .ge 68, 3) := by decide +kernel
theorem dX2_readTerm_14 : decode cX2_readTerm 14 = .ok (.iload_n 2, 1) := by decide +kernel
theorem dX2_readTerm_15 : decode cX2_readTerm 15 = .ok (.ifCond .eq 64, 3) := by decide +kernel
theorem dX2_readTerm_18 : decode cX2_readTerm 18 = .ok (.aload_n 0, 1) := by decide +kernel
theorem dX2_readTerm_19 : decode cX2_readTerm 19 = .ok (.getfield 9, 3) := by decide +kernel
theorem dX2_readTerm_22 : decode cX2_readTerm 22 = .ok (.getfield 26, 3) := by decide +kernel
theorem dX2_readTerm_25 : decode cX2_readTerm 25 = .ok (.istore 4, 2) := by decide +kernel
theorem dX2_readTerm_27 : decode cX2_readTerm 27 = .ok (.iload 4, 2) := by decide +kernel
theorem dX2_readTerm_29 : decode cX2_readTerm 29 = .ok (.bipush 42, 2) := by decide +kernel
theorem dX2_readTerm_31 : decode cX2_readTerm 31 = .ok (.if_icmp .eq 20, 3) := by decide +kernel
theorem dX2_readTerm_34 : decode cX2_readTerm 34 = .ok (.iload 4, 2) := by decide +kernel
theorem dX2_readTerm_36 : decode cX2_readTerm 36 = .ok (.bipush 47, 2) := by decide +kernel
theorem dX2_readTerm_38 : decode cX2_readTerm 38 = .ok (.if_icmp .eq 13, 3) := by decide +kernel
theorem dX2_readTerm_41 : decode cX2_readTerm 41 = .ok (.iload 4, 2) := by decide +kernel
theorem dX2_readTerm_43 : decode cX2_readTerm 43 = .ok (.bipush 37, 2) := by decide +kernel
theorem dX2_readTerm_45 : decode cX2_readTerm 45 = .ok (.if_icmp .eq 6, 3) := by decide +kernel
theorem dX2_readTerm_48 : decode cX2_readTerm 48 = .ok (.goto 31, 3) := by decide +kernel
theorem dX2_readTerm_51 : decode cX2_readTerm 51 = .ok (.aload_n 0, 1) := by decide +kernel
theorem dX2_readTerm_52 : decode cX2_readTerm 52 = .ok (.getfield 9, 3) := by decide +kernel
theorem dX2_readTerm_55 : decode cX2_readTerm 55 = .ok (.invokevirtual 32, 3) := by decide +kernel
theorem dX2_readTerm_58 : decode cX2_readTerm 58 = .ok (.aload_n 0, 1) := by decide +kernel
theorem dX2_readTerm_59 : decode cX2_readTerm 59 = .ok (.iload_n 1, 1) := by decide +kernel
theorem dX2_readTerm_60 : decode cX2_readTerm 60 = .ok (.invokevirtual 50, 3) := by decide +kernel
theorem dX2_readTerm_63 : decode cX2_readTerm 63 = .ok (.istore_n 2, 1) := by decide +kernel
theorem dX2_readTerm_64 : decode cX2_readTerm 64 = .ok (.aload_n 0, 1) := by decide +kernel
theorem dX2_readTerm_65 : decode cX2_readTerm 65 = .ok (.getfield 15, 3) := by decide +kernel
theorem dX2_readTerm_68 : decode cX2_readTerm 68 = .ok (.iload 4, 2) := by decide +kernel
theorem dX2_readTerm_70 : decode cX2_readTerm 70 = .ok (.invokevirtual 35, 3) := by decide +kernel
theorem dX2_readTerm_73 : decode cX2_readTerm 73 = .ok (.iinc 3 1, 3) := by decide +kernel
theorem dX2_readTerm_76 : decode cX2_readTerm 76 = .ok (.goto (-68), 3) := by decide +kernel
theorem dX2_readTerm_79 : decode cX2_readTerm 79 = .ok (.iload_n 2, 1) := by decide +kernel
theorem dX2_readTerm_80 : decode cX2_readTerm 80 = .ok (.ireturn, 1) := by decide +kernel
theorem dX2_readUnit_0 : decode cX2_readUnit 0 = .ok (.aload_n 0, 1) := by decide +kernel
theorem dX2_readUnit_1 : decode cX2_readUnit 1 = .ok (.getfield 15, 3) := by decide +kernel
theorem dX2_readUnit_4 : decode cX2_readUnit 4 = .ok (.getfield 53, 3) := by decide +kernel
theorem dX2_readUnit_7 : decode cX2_readUnit 7 = .ok (.bipush 30, 2) := by decide +kernel
theorem dX2_readUnit_9 : decode cX2_readUnit 9 = .ok (.if_icmp .lt 5, 3) := by decide +kernel
theorem dX2_readUnit_12 : decode cX2_readUnit 12 = .ok (.iconst 0, 1) := by decide +kernel
theorem dX2_readUnit_13 : decode cX2_readUnit 13 = .ok (.ireturn, 1) := by decide +kernel
theorem dX2_readUnit_14 : decode cX2_readUnit 14 = .ok (.aload_n 0, 1) := by decide +kernel
theorem dX2_readUnit_15 : decode cX2_readUnit 15 = .ok (.getfield 9, 3) := by decide +kernel
theorem dX2_readUnit_18 : decode cX2_readUnit 18 = .ok (.getfield 26, 3) := by decide +kernel
theorem dX2_readUnit_21 : decode cX2_readUnit 21 = .ok (.lookupswitch 137 #[(16, 68), (17, 68), (18, 68), (21, 51), (40, 85)], 51) := by decide +kernel
theorem dX2_readUnit_72 : decode cX2_readUnit 72 = .ok (.aload_n 0, 1) := by decide +kernel
theorem dX2_readUnit_73 : decode cX2_readUnit 73 = .ok (.getfield 15, 3) := by decide +kernel
theorem dX2_readUnit_76 : decode cX2_readUnit 76 = .ok (.aload_n 0, 1) := by decide +kernel
theorem dX2_readUnit_77 : decode cX2_readUnit 77 = .ok (.getfield 9, 3) := by decide +kernel
theorem dX2_readUnit_80 : decode cX2_readUnit 80 = .ok (.getfield 56, 3) := by decide +kernel
theorem dX2_readUnit_83 : decode cX2_readUnit 83 = .ok (.invokevirtual 59, 3) := by decide +kernel
theorem dX2_readUnit_86 : decode cX2_readUnit 86 = .ok (.goto 74, 3) := by decide +kernel
theorem dX2_readUnit_89 : decode cX2_readUnit 89 = .ok (.aload_n 0, 1) := by decide +kernel
theorem dX2_readUnit_90 : decode cX2_readUnit 90 = .ok (.getfield 15, 3) := by decide +kernel
theorem dX2_readUnit_93 : decode cX2_readUnit 93 = .ok (.aload_n 0, 1) := by decide +kernel
theorem dX2_readUnit_94 : decode cX2_readUnit 94 = .ok (.getfield 9, 3) := by decide +kernel
theorem dX2_readUnit_97 : decode cX2_readUnit 97 = .ok (.getfield 26, 3) := by decide +kernel
theorem dX2_readUnit_100 : decode cX2_readUnit 100 = .ok (.invokevirtual 62, 3) := by decide +kernel
theorem dX2_readUnit_103 : decode cX2_readUnit 103 = .ok (.goto 57, 3) := by decide +kernel
theorem dX2_readUnit_106 : decode cX2_readUnit 106 = .ok (.iload_n 1, 1) := by decide +kernel
theorem dX2_readUnit_107 : decode cX2_readUnit 107 = .ok (.bipush 7, 2) := by decide +kernel
theorem dX2_readUnit_109 : decode cX2_readUnit 109 = .ok (.if_icmp .lt 5, 3) := by decide +kernel
theorem dX2_readUnit_112 : decode cX2_readUnit 112 = .ok (.iconst 0, 1) := by decide +kernel
theorem dX2_readUnit_113 : decode cX2_readUnit 113 = .ok (.ireturn, 1) := by decide +kernel
theorem dX2_readUnit_114 : decode cX2_readUnit 114 = .ok (.aload_n 0, 1) := by decide +kernel
theorem dX2_readUnit_115 : decode cX2_readUnit 115 = .ok (.getfield 15, 3) := by decide +kernel
theorem dX2_readUnit_118 : decode cX2_readUnit 118 = .ok (.dup, 1) := by decide +kernel
theorem dX2_readUnit_119 : decode cX2_readUnit 119 = .ok (.getfield 53, 3) := by decide +kernel
theorem dX2_readUnit_122 : decode cX2_readUnit 122 = .ok (.iconst 1, 1) := by decide +kernel
theorem dX2_readUnit_123 : decode cX2_readUnit 123 = .ok (.iadd, 1) := by decide +kernel
theorem dX2_readUnit_124 : decode cX2_readUnit 124 = .ok (.putfield 53, 3) := by decide +kernel
theorem dX2_readUnit_127 : decode cX2_readUnit 127 = .ok (.aload_n 0, 1) := by decide +kernel
theorem dX2_readUnit_128 : decode cX2_readUnit 128 = .ok (.getfield 9, 3) := by decide +kernel
theorem dX2_readUnit_131 : decode cX2_readUnit 131 = .ok (.invokevirtual 32, 3) := by decide +kernel
theorem dX2_readUnit_134 : decode cX2_readUnit 134 = .ok (.aload_n 0, 1) := by decide +kernel
theorem dX2_readUnit_135 : decode cX2_readUnit 135 = .ok (.iload_n 1, 1) := by decide +kernel
theorem dX2_readUnit_136 : decode cX2_readUnit 136 = .ok (.iconst 1, 1) := by decide +kernel
theorem dX2_readUnit_137 : decode cX2_readUnit 137 = .ok (.iadd, 1) := by decide +kernel
theorem dX2_readUnit_138 : decode cX2_readUnit 138 = .ok (.invokevirtual 19, 3) := by decide +kernel
theorem dX2_readUnit_141 : decode cX2_readUnit 141 = .ok (.ifCond .eq 15, 3) := by decide +kernel
theorem dX2_readUnit_144 : decode cX2_readUnit 144 = .ok (.aload_n 0, 1) := by decide +kernel
theorem dX2_readUnit_145 : decode cX2_readUnit 145 = .ok (.getfield 9, 3) := by decide +kernel
theorem dX2_readUnit_148 : decode cX2_readUnit 148 = .ok (.getfield 26, 3) := by decide +kernel
theorem dX2_readUnit_151 : decode cX2_readUnit 151 = .ok (.bipush 41, 2) := by decide +kernel
theorem dX2_readUnit_153 : decode cX2_readUnit 153 = .ok (.if_icmp .eq 7, 3) := by decide +kernel
theorem dX2_readUnit_156 : decode cX2_readUnit 156 = .ok (.iconst 0, 1) := by decide +kernel
theorem dX2_readUnit_157 : decode cX2_readUnit 157 = .ok (.ireturn, 1) := by decide +kernel
theorem dX2_readUnit_158 : decode cX2_readUnit 158 = .ok (.iconst 0, 1) := by decide +kernel
theorem dX2_readUnit_159 : decode cX2_readUnit 159 = .ok (.ireturn, 1) := by decide +kernel
theorem dX2_readUnit_160 : decode cX2_readUnit 160 = .ok (.aload_n 0, 1) := by decide +kernel
theorem dX2_readUnit_161 : decode cX2_readUnit 161 = .ok (.getfield 9, 3) := by decide +kernel
theorem dX2_readUnit_164 : decode cX2_readUnit 164 = .ok (.invokevirtual 32, 3) := by decide +kernel
theorem dX2_readUnit_167 : decode cX2_readUnit 167 = .ok (.iconst 1, 1) := by decide +kernel
theorem dX2_readUnit_168 : decode cX2_readUnit 168 = .ok (.ireturn, 1) := by decide +kernel
theorem dX3_init_0 : decode cX3_init 0 = .ok (.aload_n 0, 1) := by decide +kernel
theorem dX3_init_1 : decode cX3_init 1 = .ok (.invokespecial 3, 3) := by decide +kernel
theorem dX3_init_4 : decode cX3_init 4 = .ok (.aload_n 0, 1) := by decide +kernel
theorem dX3_init_5 : decode cX3_init 5 = .ok (.bipush 30, 2) := by decide +kernel
theorem dX3_init_7 : decode cX3_init 7 = .ok (.newarray .int, 2) := by decide +kernel
theorem dX3_init_9 : decode cX3_init 9 = .ok (.putfield 9, 3) := by decide +kernel
theorem dX3_init_12 : decode cX3_init 12 = .ok (.aload_n 0, 1) := by decide +kernel
theorem dX3_init_13 : decode cX3_init 13 = .ok (.bipush 30, 2) := by decide +kernel
theorem dX3_init_15 : decode cX3_init 15 = .ok (.newarray .int, 2) := by decide +kernel
theorem dX3_init_17 : decode cX3_init 17 = .ok (.putfield 15, 3) := by decide +kernel
theorem dX3_init_20 : decode cX3_init 20 = .ok (.aload_n 0, 1) := by decide +kernel
theorem dX3_init_21 : decode cX3_init 21 = .ok (.bipush 30, 2) := by decide +kernel
theorem dX3_init_23 : decode cX3_init 23 = .ok (.newarray .int, 2) := by decide +kernel
theorem dX3_init_25 : decode cX3_init 25 = .ok (.putfield 18, 3) := by decide +kernel
theorem dX3_init_28 : decode cX3_init 28 = .ok (.aload_n 0, 1) := by decide +kernel
theorem dX3_init_29 : decode cX3_init 29 = .ok (.bipush 30, 2) := by decide +kernel
theorem dX3_init_31 : decode cX3_init 31 = .ok (.newarray .int, 2) := by decide +kernel
theorem dX3_init_33 : decode cX3_init 33 = .ok (.putfield 21, 3) := by decide +kernel
theorem dX3_init_36 : decode cX3_init 36 = .ok (.aload_n 0, 1) := by decide +kernel
theorem dX3_init_37 : decode cX3_init 37 = .ok (.iconst 4, 1) := by decide +kernel
theorem dX3_init_38 : decode cX3_init 38 = .ok (.newarray .long, 2) := by decide +kernel
theorem dX3_init_40 : decode cX3_init 40 = .ok (.putfield 24, 3) := by decide +kernel
theorem dX3_init_43 : decode cX3_init 43 = .ok (.aload_n 0, 1) := by decide +kernel
theorem dX3_init_44 : decode cX3_init 44 = .ok (.iconst 4, 1) := by decide +kernel
theorem dX3_init_45 : decode cX3_init 45 = .ok (.newarray .int, 2) := by decide +kernel
theorem dX3_init_47 : decode cX3_init 47 = .ok (.putfield 28, 3) := by decide +kernel
theorem dX3_init_50 : decode cX3_init 50 = .ok (.return_, 1) := by decide +kernel
theorem dX3_forget_0 : decode cX3_forget 0 = .ok (.aload_n 0, 1) := by decide +kernel
theorem dX3_forget_1 : decode cX3_forget 1 = .ok (.iconst 0, 1) := by decide +kernel
theorem dX3_forget_2 : decode cX3_forget 2 = .ok (.putfield 31, 3) := by decide +kernel
theorem dX3_forget_5 : decode cX3_forget 5 = .ok (.aload_n 0, 1) := by decide +kernel
theorem dX3_forget_6 : decode cX3_forget 6 = .ok (.iconst 0, 1) := by decide +kernel
theorem dX3_forget_7 : decode cX3_forget 7 = .ok (.putfield 35, 3) := by decide +kernel
theorem dX3_forget_10 : decode cX3_forget 10 = .ok (.aload_n 0, 1) := by decide +kernel
theorem dX3_forget_11 : decode cX3_forget 11 = .ok (.iconst 0, 1) := by decide +kernel
theorem dX3_forget_12 : decode cX3_forget 12 = .ok (.putfield 38, 3) := by decide +kernel
theorem dX3_forget_15 : decode cX3_forget 15 = .ok (.return_, 1) := by decide +kernel
theorem dX3_tell_0 : decode cX3_tell 0 = .ok (.aload_n 0, 1) := by decide +kernel
theorem dX3_tell_1 : decode cX3_tell 1 = .ok (.getfield 31, 3) := by decide +kernel
theorem dX3_tell_4 : decode cX3_tell 4 = .ok (.bipush 30, 2) := by decide +kernel
theorem dX3_tell_6 : decode cX3_tell 6 = .ok (.if_icmp .lt 5, 3) := by decide +kernel
theorem dX3_tell_9 : decode cX3_tell 9 = .ok (.iconst (-1), 1) := by decide +kernel
theorem dX3_tell_10 : decode cX3_tell 10 = .ok (.ireturn, 1) := by decide +kernel
theorem dX3_tell_11 : decode cX3_tell 11 = .ok (.aload_n 0, 1) := by decide +kernel
theorem dX3_tell_12 : decode cX3_tell 12 = .ok (.getfield 9, 3) := by decide +kernel
theorem dX3_tell_15 : decode cX3_tell 15 = .ok (.aload_n 0, 1) := by decide +kernel
theorem dX3_tell_16 : decode cX3_tell 16 = .ok (.getfield 31, 3) := by decide +kernel
theorem dX3_tell_19 : decode cX3_tell 19 = .ok (.iload_n 1, 1) := by decide +kernel
theorem dX3_tell_20 : decode cX3_tell 20 = .ok (.iastore, 1) := by decide +kernel
theorem dX3_tell_21 : decode cX3_tell 21 = .ok (.aload_n 0, 1) := by decide +kernel
theorem dX3_tell_22 : decode cX3_tell 22 = .ok (.getfield 15, 3) := by decide +kernel
theorem dX3_tell_25 : decode cX3_tell 25 = .ok (.aload_n 0, 1) := by decide +kernel
theorem dX3_tell_26 : decode cX3_tell 26 = .ok (.getfield 31, 3) := by decide +kernel
theorem dX3_tell_29 : decode cX3_tell 29 = .ok (.iload_n 2, 1) := by decide +kernel
theorem dX3_tell_30 : decode cX3_tell 30 = .ok (.iastore, 1) := by decide +kernel
theorem dX3_tell_31 : decode cX3_tell 31 = .ok (.aload_n 0, 1) := by decide +kernel
theorem dX3_tell_32 : decode cX3_tell 32 = .ok (.getfield 18, 3) := by decide +kernel
theorem dX3_tell_35 : decode cX3_tell 35 = .ok (.aload_n 0, 1) := by decide +kernel
theorem dX3_tell_36 : decode cX3_tell 36 = .ok (.getfield 31, 3) := by decide +kernel
theorem dX3_tell_39 : decode cX3_tell 39 = .ok (.aload_n 0, 1) := by decide +kernel
theorem dX3_tell_40 : decode cX3_tell 40 = .ok (.getfield 41, 3) := by decide +kernel
theorem dX3_tell_43 : decode cX3_tell 43 = .ok (.iastore, 1) := by decide +kernel
theorem dX3_tell_44 : decode cX3_tell 44 = .ok (.iload_n 3, 1) := by decide +kernel
theorem dX3_tell_45 : decode cX3_tell 45 = .ok (.ifCond .eq 18, 3) := by decide +kernel
theorem dX3_tell_48 : decode cX3_tell 48 = .ok (.aload_n 0, 1) := by decide +kernel
theorem dX3_tell_49 : decode cX3_tell 49 = .ok (.dup, 1) := by decide +kernel
theorem dX3_tell_50 : decode cX3_tell 50 = .ok (.getfield 35, 3) := by decide +kernel
theorem dX3_tell_53 : decode cX3_tell 53 = .ok (.iconst 1, 1) := by decide +kernel
theorem dX3_tell_54 : decode cX3_tell 54 = .ok (.aload_n 0, 1) := by decide +kernel
theorem dX3_tell_55 : decode cX3_tell 55 = .ok (.getfield 31, 3) := by decide +kernel
theorem dX3_tell_58 : decode cX3_tell 58 = .ok (.ishl, 1) := by decide +kernel
theorem dX3_tell_59 : decode cX3_tell 59 = .ok (.ior, 1) := by decide +kernel
theorem dX3_tell_60 : decode cX3_tell 60 = .ok (.putfield 35, 3) := by decide +kernel
theorem dX3_tell_63 : decode cX3_tell 63 = .ok (.aload_n 0, 1) := by decide +kernel
theorem dX3_tell_64 : decode cX3_tell 64 = .ok (.dup, 1) := by decide +kernel
theorem dX3_tell_65 : decode cX3_tell 65 = .ok (.getfield 31, 3) := by decide +kernel
theorem dX3_tell_68 : decode cX3_tell 68 = .ok (.iconst 1, 1) := by decide +kernel
theorem dX3_tell_69 : decode cX3_tell 69 = .ok (.iadd, 1) := by decide +kernel
theorem dX3_tell_70 : decode cX3_tell 70 = .ok (.putfield 31, 3) := by decide +kernel
theorem dX3_tell_73 : decode cX3_tell 73 = .ok (.aload_n 0, 1) := by decide +kernel
theorem dX3_tell_74 : decode cX3_tell 74 = .ok (.getfield 31, 3) := by decide +kernel
theorem dX3_tell_77 : decode cX3_tell 77 = .ok (.iconst 1, 1) := by decide +kernel
theorem dX3_tell_78 : decode cX3_tell 78 = .ok (.isub, 1) := by decide +kernel
theorem dX3_tell_79 : decode cX3_tell 79 = .ok (.ireturn, 1) := by decide +kernel
theorem dX3_takeBack_0 : decode cX3_takeBack 0 = .ok (.iload_n 1, 1) := by decide +kernel
theorem dX3_takeBack_1 : decode cX3_takeBack 1 = .ok (.ifCond .lt 22, 3) := by decide +kernel
theorem dX3_takeBack_4 : decode cX3_takeBack 4 = .ok (.iload_n 1, 1) := by decide +kernel
theorem dX3_takeBack_5 : decode cX3_takeBack 5 = .ok (.aload_n 0, 1) := by decide +kernel
theorem dX3_takeBack_6 : decode cX3_takeBack 6 = .ok (.getfield 31, 3) := by decide +kernel
theorem dX3_takeBack_9 : decode cX3_takeBack 9 = .ok (.if_icmp .ge 14, 3) := by decide +kernel
theorem dX3_takeBack_12 : decode cX3_takeBack 12 = .ok (.aload_n 0, 1) := by decide +kernel
theorem dX3_takeBack_13 : decode cX3_takeBack 13 = .ok (.getfield 38, 3) := by decide +kernel
theorem dX3_takeBack_16 : decode cX3_takeBack 16 = .ok (.iload_n 1, 1) := by decide +kernel
theorem dX3_takeBack_17 : decode cX3_takeBack 17 = .ok (.invokestatic 44, 3) := by decide +kernel
theorem dX3_takeBack_20 : decode cX3_takeBack 20 = .ok (.ifCond .eq 5, 3) := by decide +kernel
theorem dX3_takeBack_23 : decode cX3_takeBack 23 = .ok (.iconst 0, 1) := by decide +kernel
theorem dX3_takeBack_24 : decode cX3_takeBack 24 = .ok (.ireturn, 1) := by decide +kernel
theorem dX3_takeBack_25 : decode cX3_takeBack 25 = .ok (.aload_n 0, 1) := by decide +kernel
theorem dX3_takeBack_26 : decode cX3_takeBack 26 = .ok (.dup, 1) := by decide +kernel
theorem dX3_takeBack_27 : decode cX3_takeBack 27 = .ok (.getfield 38, 3) := by decide +kernel
theorem dX3_takeBack_30 : decode cX3_takeBack 30 = .ok (.iconst 1, 1) := by decide +kernel
theorem dX3_takeBack_31 : decode cX3_takeBack 31 = .ok (.iload_n 1, 1) := by decide +kernel
theorem dX3_takeBack_32 : decode cX3_takeBack 32 = .ok (.ishl, 1) := by decide +kernel
theorem dX3_takeBack_33 : decode cX3_takeBack 33 = .ok (.ior, 1) := by decide +kernel
theorem dX3_takeBack_34 : decode cX3_takeBack 34 = .ok (.putfield 38, 3) := by decide +kernel
theorem dX3_takeBack_37 : decode cX3_takeBack 37 = .ok (.aload_n 0, 1) := by decide +kernel
theorem dX3_takeBack_38 : decode cX3_takeBack 38 = .ok (.getfield 21, 3) := by decide +kernel
theorem dX3_takeBack_41 : decode cX3_takeBack 41 = .ok (.iload_n 1, 1) := by decide +kernel
theorem dX3_takeBack_42 : decode cX3_takeBack 42 = .ok (.aload_n 0, 1) := by decide +kernel
theorem dX3_takeBack_43 : decode cX3_takeBack 43 = .ok (.getfield 41, 3) := by decide +kernel
theorem dX3_takeBack_46 : decode cX3_takeBack 46 = .ok (.iastore, 1) := by decide +kernel
theorem dX3_takeBack_47 : decode cX3_takeBack 47 = .ok (.iconst 1, 1) := by decide +kernel
theorem dX3_takeBack_48 : decode cX3_takeBack 48 = .ok (.ireturn, 1) := by decide +kernel
theorem dX3_counts_0 : decode cX3_counts 0 = .ok (.aload_n 0, 1) := by decide +kernel
theorem dX3_counts_1 : decode cX3_counts 1 = .ok (.getfield 18, 3) := by decide +kernel
theorem dX3_counts_4 : decode cX3_counts 4 = .ok (.iload_n 1, 1) := by decide +kernel
theorem dX3_counts_5 : decode cX3_counts 5 = .ok (.iaload, 1) := by decide +kernel
theorem dX3_counts_6 : decode cX3_counts 6 = .ok (.iload_n 2, 1) := by decide +kernel
theorem dX3_counts_7 : decode cX3_counts 7 = .ok (.if_icmp .gt 28, 3) := by decide +kernel
theorem dX3_counts_10 : decode cX3_counts 10 = .ok (.aload_n 0, 1) := by decide +kernel
theorem dX3_counts_11 : decode cX3_counts 11 = .ok (.getfield 38, 3) := by decide +kernel
theorem dX3_counts_14 : decode cX3_counts 14 = .ok (.iload_n 1, 1) := by decide +kernel
theorem dX3_counts_15 : decode cX3_counts 15 = .ok (.invokestatic 44, 3) := by decide +kernel
theorem dX3_counts_18 : decode cX3_counts 18 = .ok (.ifCond .eq 13, 3) := by decide +kernel
theorem dX3_counts_21 : decode cX3_counts 21 = .ok (.aload_n 0, 1) := by decide +kernel
theorem dX3_counts_22 : decode cX3_counts 22 = .ok (.getfield 21, 3) := by decide +kernel
theorem dX3_counts_25 : decode cX3_counts 25 = .ok (.iload_n 1, 1) := by decide +kernel
theorem dX3_counts_26 : decode cX3_counts 26 = .ok (.iaload, 1) := by decide +kernel
theorem dX3_counts_27 : decode cX3_counts 27 = .ok (.iload_n 2, 1) := by decide +kernel
theorem dX3_counts_28 : decode cX3_counts 28 = .ok (.if_icmp .le 7, 3) := by decide +kernel
theorem dX3_counts_31 : decode cX3_counts 31 = .ok (.iconst 1, 1) := by decide +kernel
theorem dX3_counts_32 : decode cX3_counts 32 = .ok (.goto 4, 3) := by decide +kernel
theorem dX3_counts_35 : decode cX3_counts 35 = .ok (.iconst 0, 1) := by decide +kernel
theorem dX3_counts_36 : decode cX3_counts 36 = .ok (.ireturn, 1) := by decide +kernel
theorem dX3_findFitting_0 : decode cX3_findFitting 0 = .ok (.aload_n 0, 1) := by decide +kernel
theorem dX3_findFitting_1 : decode cX3_findFitting 1 = .ok (.getfield 24, 3) := by decide +kernel
theorem dX3_findFitting_4 : decode cX3_findFitting 4 = .ok (.aload_n 1, 1) := by decide +kernel
theorem dX3_findFitting_5 : decode cX3_findFitting 5 = .ok (.getfield 48, 3) := by decide +kernel
theorem dX3_findFitting_8 : decode cX3_findFitting 8 = .ok (.invokestatic 54, 3) := by decide +kernel
theorem dX3_findFitting_11 : decode cX3_findFitting 11 = .ok (.iconst 0, 1) := by decide +kernel
theorem dX3_findFitting_12 : decode cX3_findFitting 12 = .ok (.istore_n 3, 1) := by decide +kernel
theorem dX3_findFitting_13 : decode cX3_findFitting 13 = .ok (.iload_n 3, 1) := by decide +kernel
theorem dX3_findFitting_14 : decode cX3_findFitting 14 = .ok (.aload_n 0, 1) := by decide +kernel
theorem dX3_findFitting_15 : decode cX3_findFitting 15 = .ok (.getfield 31, 3) := by decide +kernel
theorem dX3_findFitting_18 : decode cX3_findFitting 18 = .ok (.if_icmp .ge 35, 3) := by decide +kernel
theorem dX3_findFitting_21 : decode cX3_findFitting 21 = .ok (.aload_n 0, 1) := by decide +kernel
theorem dX3_findFitting_22 : decode cX3_findFitting 22 = .ok (.iload_n 3, 1) := by decide +kernel
theorem dX3_findFitting_23 : decode cX3_findFitting 23 = .ok (.iload_n 2, 1) := by decide +kernel
theorem dX3_findFitting_24 : decode cX3_findFitting 24 = .ok (.invokevirtual 60, 3) := by decide +kernel
theorem dX3_findFitting_27 : decode cX3_findFitting 27 = .ok (.ifCond .eq 20, 3) := by decide +kernel
theorem dX3_findFitting_30 : decode cX3_findFitting 30 = .ok (.aload_n 0, 1) := by decide +kernel
theorem dX3_findFitting_31 : decode cX3_findFitting 31 = .ok (.aload_n 1, 1) := by decide +kernel
theorem dX3_findFitting_32 : decode cX3_findFitting 32 = .ok (.aload_n 0, 1) := by decide +kernel
theorem dX3_findFitting_33 : decode cX3_findFitting 33 = .ok (.getfield 9, 3) := by decide +kernel
theorem dX3_findFitting_36 : decode cX3_findFitting 36 = .ok (.iload_n 3, 1) := by decide +kernel
theorem dX3_findFitting_37 : decode cX3_findFitting 37 = .ok (.iaload, 1) := by decide +kernel
theorem dX3_findFitting_38 : decode cX3_findFitting 38 = .ok (.invokevirtual 63, 3) := by decide +kernel
theorem dX3_findFitting_41 : decode cX3_findFitting 41 = .ok (.aload_n 0, 1) := by decide +kernel
theorem dX3_findFitting_42 : decode cX3_findFitting 42 = .ok (.aload_n 1, 1) := by decide +kernel
theorem dX3_findFitting_43 : decode cX3_findFitting 43 = .ok (.iload_n 3, 1) := by decide +kernel
theorem dX3_findFitting_44 : decode cX3_findFitting 44 = .ok (.invokevirtual 67, 3) := by decide +kernel
theorem dX3_findFitting_47 : decode cX3_findFitting 47 = .ok (.iinc 3 1, 3) := by decide +kernel
theorem dX3_findFitting_50 : decode cX3_findFitting 50 = .ok (.goto (-37), 3) := by decide +kernel
theorem dX3_findFitting_53 : decode cX3_findFitting 53 = .ok (.aload_n 0, 1) := by decide +kernel
theorem dX3_findFitting_54 : decode cX3_findFitting 54 = .ok (.invokevirtual 70, 3) := by decide +kernel
theorem dX3_findFitting_57 : decode cX3_findFitting 57 = .ok (.ireturn, 1) := by decide +kernel
theorem dX3_keepFitting_0 : decode cX3_keepFitting 0 = .ok (.iconst 0, 1) := by decide +kernel
theorem dX3_keepFitting_1 : decode cX3_keepFitting 1 = .ok (.istore_n 3, 1) := by decide +kernel
theorem dX3_keepFitting_2 : decode cX3_keepFitting 2 = .ok (.iload_n 3, 1) := by decide +kernel
theorem dX3_keepFitting_3 : decode cX3_keepFitting 3 = .ok (.iconst 4, 1) := by decide +kernel
theorem dX3_keepFitting_4 : decode cX3_keepFitting 4 = .ok (.if_icmp .ge 54, 3) := by decide +kernel
theorem dX3_keepFitting_7 : decode cX3_keepFitting 7 = .ok (.aload_n 0, 1) := by decide +kernel
theorem dX3_keepFitting_8 : decode cX3_keepFitting 8 = .ok (.aload_n 1, 1) := by decide +kernel
theorem dX3_keepFitting_9 : decode cX3_keepFitting 9 = .ok (.aload_n 0, 1) := by decide +kernel
theorem dX3_keepFitting_10 : decode cX3_keepFitting 10 = .ok (.getfield 15, 3) := by decide +kernel
theorem dX3_keepFitting_13 : decode cX3_keepFitting 13 = .ok (.iload_n 2, 1) := by decide +kernel
theorem dX3_keepFitting_14 : decode cX3_keepFitting 14 = .ok (.iaload, 1) := by decide +kernel
theorem dX3_keepFitting_15 : decode cX3_keepFitting 15 = .ok (.iload_n 3, 1) := by decide +kernel
theorem dX3_keepFitting_16 : decode cX3_keepFitting 16 = .ok (.invokevirtual 74, 3) := by decide +kernel
theorem dX3_keepFitting_19 : decode cX3_keepFitting 19 = .ok (.lstore 4, 2) := by decide +kernel
theorem dX3_keepFitting_21 : decode cX3_keepFitting 21 = .ok (.aload_n 0, 1) := by decide +kernel
theorem dX3_keepFitting_22 : decode cX3_keepFitting 22 = .ok (.getfield 24, 3) := by decide +kernel
theorem dX3_keepFitting_25 : decode cX3_keepFitting 25 = .ok (.iload_n 3, 1) := by decide +kernel
theorem dX3_keepFitting_26 : decode cX3_keepFitting 26 = .ok (.dup2, 1) := by decide +kernel
theorem dX3_keepFitting_27 : decode cX3_keepFitting 27 = .ok (.laload, 1) := by decide +kernel
theorem dX3_keepFitting_28 : decode cX3_keepFitting 28 = .ok (.aload_n 0, 1) := by decide +kernel
theorem dX3_keepFitting_29 : decode cX3_keepFitting 29 = .ok (.getfield 35, 3) := by decide +kernel
theorem dX3_keepFitting_32 : decode cX3_keepFitting 32 = .ok (.iload_n 2, 1) := by decide +kernel
theorem dX3_keepFitting_33 : decode cX3_keepFitting 33 = .ok (.invokestatic 44, 3) := by decide +kernel
theorem dX3_keepFitting_36 : decode cX3_keepFitting 36 = .ok (.ifCond .eq 8, 3) := by decide +kernel
theorem dX3_keepFitting_39 : decode cX3_keepFitting 39 = .ok (.lload 4, 2) := by decide +kernel
theorem dX3_keepFitting_41 : decode cX3_keepFitting 41 = .ok (.goto 9, 3) := by decide +kernel
theorem dX3_keepFitting_44 : decode cX3_keepFitting 44 = .ok (.lload 4, 2) := by decide +kernel
theorem dX3_keepFitting_46 : decode cX3_keepFitting 46 = .ok (.ldc2_w 78, 3) := by decide +kernel
theorem dX3_keepFitting_49 : decode cX3_keepFitting 49 = .ok (.lxor, 1) := by decide +kernel
theorem dX3_keepFitting_50 : decode cX3_keepFitting 50 = .ok (.land, 1) := by decide +kernel
theorem dX3_keepFitting_51 : decode cX3_keepFitting 51 = .ok (.lastore, 1) := by decide +kernel
theorem dX3_keepFitting_52 : decode cX3_keepFitting 52 = .ok (.iinc 3 1, 3) := by decide +kernel
theorem dX3_keepFitting_55 : decode cX3_keepFitting 55 = .ok (.goto (-53), 3) := by decide +kernel
theorem dX3_keepFitting_58 : decode cX3_keepFitting 58 = .ok (.return_, 1) := by decide +kernel
theorem dX3_countFitting_0 : decode cX3_countFitting 0 = .ok (.iconst 0, 1) := by decide +kernel
theorem dX3_countFitting_1 : decode cX3_countFitting 1 = .ok (.istore_n 1, 1) := by decide +kernel
theorem dX3_countFitting_2 : decode cX3_countFitting 2 = .ok (.iconst 0, 1) := by decide +kernel
theorem dX3_countFitting_3 : decode cX3_countFitting 3 = .ok (.istore_n 2, 1) := by decide +kernel
theorem dX3_countFitting_4 : decode cX3_countFitting 4 = .ok (.iload_n 2, 1) := by decide +kernel
theorem dX3_countFitting_5 : decode cX3_countFitting 5 = .ok (.iconst 4, 1) := by decide +kernel
theorem dX3_countFitting_6 : decode cX3_countFitting 6 = .ok (.if_icmp .ge 21, 3) := by decide +kernel
theorem dX3_countFitting_9 : decode cX3_countFitting 9 = .ok (.iload_n 1, 1) := by decide +kernel
theorem dX3_countFitting_10 : decode cX3_countFitting 10 = .ok (.aload_n 0, 1) := by decide +kernel
theorem dX3_countFitting_11 : decode cX3_countFitting 11 = .ok (.getfield 24, 3) := by decide +kernel
theorem dX3_countFitting_14 : decode cX3_countFitting 14 = .ok (.iload_n 2, 1) := by decide +kernel
theorem dX3_countFitting_15 : decode cX3_countFitting 15 = .ok (.laload, 1) := by decide +kernel
theorem dX3_countFitting_16 : decode cX3_countFitting 16 = .ok (.invokestatic 80, 3) := by decide +kernel
theorem dX3_countFitting_19 : decode cX3_countFitting 19 = .ok (.iadd, 1) := by decide +kernel
theorem dX3_countFitting_20 : decode cX3_countFitting 20 = .ok (.istore_n 1, 1) := by decide +kernel
theorem dX3_countFitting_21 : decode cX3_countFitting 21 = .ok (.iinc 2 1, 3) := by decide +kernel
theorem dX3_countFitting_24 : decode cX3_countFitting 24 = .ok (.goto (-20), 3) := by decide +kernel
theorem dX3_countFitting_27 : decode cX3_countFitting 27 = .ok (.iload_n 1, 1) := by decide +kernel
theorem dX3_countFitting_28 : decode cX3_countFitting 28 = .ok (.ireturn, 1) := by decide +kernel
theorem dX3_doorsShading_0 : decode cX3_doorsShading 0 = .ok (.aload_n 1, 1) := by decide +kernel
theorem dX3_doorsShading_1 : decode cX3_doorsShading 1 = .ok (.iload_n 2, 1) := by decide +kernel
theorem dX3_doorsShading_2 : decode cX3_doorsShading 2 = .ok (.aload_n 0, 1) := by decide +kernel
theorem dX3_doorsShading_3 : decode cX3_doorsShading 3 = .ok (.getfield 28, 3) := by decide +kernel
theorem dX3_doorsShading_6 : decode cX3_doorsShading 6 = .ok (.iload_n 3, 1) := by decide +kernel
theorem dX3_doorsShading_7 : decode cX3_doorsShading 7 = .ok (.iaload, 1) := by decide +kernel
theorem dX3_doorsShading_8 : decode cX3_doorsShading 8 = .ok (.ineg, 1) := by decide +kernel
theorem dX3_doorsShading_9 : decode cX3_doorsShading 9 = .ok (.invokevirtual 86, 3) := by decide +kernel
theorem dX3_doorsShading_12 : decode cX3_doorsShading 12 = .ok (.lreturn, 1) := by decide +kernel
theorem dX3_findLengths_0 : decode cX3_findLengths 0 = .ok (.iconst 0, 1) := by decide +kernel
theorem dX3_findLengths_1 : decode cX3_findLengths 1 = .ok (.istore_n 3, 1) := by decide +kernel
theorem dX3_findLengths_2 : decode cX3_findLengths 2 = .ok (.iload_n 3, 1) := by decide +kernel
theorem dX3_findLengths_3 : decode cX3_findLengths 3 = .ok (.iconst 4, 1) := by decide +kernel
theorem dX3_findLengths_4 : decode cX3_findLengths 4 = .ok (.if_icmp .ge 30, 3) := by decide +kernel
theorem dX3_findLengths_7 : decode cX3_findLengths 7 = .ok (.aload_n 0, 1) := by decide +kernel
theorem dX3_findLengths_8 : decode cX3_findLengths 8 = .ok (.getfield 28, 3) := by decide +kernel
theorem dX3_findLengths_11 : decode cX3_findLengths 11 = .ok (.iload_n 3, 1) := by decide +kernel
theorem dX3_findLengths_12 : decode cX3_findLengths 12 = .ok (.aload_n 1, 1) := by decide +kernel
theorem dX3_findLengths_13 : decode cX3_findLengths 13 = .ok (.getfield 90, 3) := by decide +kernel
theorem dX3_findLengths_16 : decode cX3_findLengths 16 = .ok (.iload_n 3, 1) := by decide +kernel
theorem dX3_findLengths_17 : decode cX3_findLengths 17 = .ok (.iconst 1, 1) := by decide +kernel
theorem dX3_findLengths_18 : decode cX3_findLengths 18 = .ok (.iadd, 1) := by decide +kernel
theorem dX3_findLengths_19 : decode cX3_findLengths 19 = .ok (.iload_n 2, 1) := by decide +kernel
theorem dX3_findLengths_20 : decode cX3_findLengths 20 = .ok (.iconst 0, 1) := by decide +kernel
theorem dX3_findLengths_21 : decode cX3_findLengths 21 = .ok (.invokevirtual 94, 3) := by decide +kernel
theorem dX3_findLengths_24 : decode cX3_findLengths 24 = .ok (.invokestatic 100, 3) := by decide +kernel
theorem dX3_findLengths_27 : decode cX3_findLengths 27 = .ok (.iastore, 1) := by decide +kernel
theorem dX3_findLengths_28 : decode cX3_findLengths 28 = .ok (.iinc 3 1, 3) := by decide +kernel
theorem dX3_findLengths_31 : decode cX3_findLengths 31 = .ok (.goto (-29), 3) := by decide +kernel
theorem dX3_findLengths_34 : decode cX3_findLengths 34 = .ok (.return_, 1) := by decide +kernel
theorem dX3_fittingCells_0 : decode cX3_fittingCells 0 = .ok (.lconst 0, 1) := by decide +kernel
theorem dX3_fittingCells_1 : decode cX3_fittingCells 1 = .ok (.lstore_n 1, 1) := by decide +kernel
theorem dX3_fittingCells_2 : decode cX3_fittingCells 2 = .ok (.iconst 0, 1) := by decide +kernel
theorem dX3_fittingCells_3 : decode cX3_fittingCells 3 = .ok (.istore_n 3, 1) := by decide +kernel
theorem dX3_fittingCells_4 : decode cX3_fittingCells 4 = .ok (.iload_n 3, 1) := by decide +kernel
theorem dX3_fittingCells_5 : decode cX3_fittingCells 5 = .ok (.iconst 4, 1) := by decide +kernel
theorem dX3_fittingCells_6 : decode cX3_fittingCells 6 = .ok (.if_icmp .ge 18, 3) := by decide +kernel
theorem dX3_fittingCells_9 : decode cX3_fittingCells 9 = .ok (.lload_n 1, 1) := by decide +kernel
theorem dX3_fittingCells_10 : decode cX3_fittingCells 10 = .ok (.aload_n 0, 1) := by decide +kernel
theorem dX3_fittingCells_11 : decode cX3_fittingCells 11 = .ok (.getfield 24, 3) := by decide +kernel
theorem dX3_fittingCells_14 : decode cX3_fittingCells 14 = .ok (.iload_n 3, 1) := by decide +kernel
theorem dX3_fittingCells_15 : decode cX3_fittingCells 15 = .ok (.laload, 1) := by decide +kernel
theorem dX3_fittingCells_16 : decode cX3_fittingCells 16 = .ok (.lor, 1) := by decide +kernel
theorem dX3_fittingCells_17 : decode cX3_fittingCells 17 = .ok (.lstore_n 1, 1) := by decide +kernel
theorem dX3_fittingCells_18 : decode cX3_fittingCells 18 = .ok (.iinc 3 1, 3) := by decide +kernel
theorem dX3_fittingCells_21 : decode cX3_fittingCells 21 = .ok (.goto (-17), 3) := by decide +kernel
theorem dX3_fittingCells_24 : decode cX3_fittingCells 24 = .ok (.lload_n 1, 1) := by decide +kernel
theorem dX3_fittingCells_25 : decode cX3_fittingCells 25 = .ok (.lreturn, 1) := by decide +kernel
theorem dX3_fittingHeights_0 : decode cX3_fittingHeights 0 = .ok (.iconst 0, 1) := by decide +kernel
theorem dX3_fittingHeights_1 : decode cX3_fittingHeights 1 = .ok (.istore_n 1, 1) := by decide +kernel
theorem dX3_fittingHeights_2 : decode cX3_fittingHeights 2 = .ok (.iconst 0, 1) := by decide +kernel
theorem dX3_fittingHeights_3 : decode cX3_fittingHeights 3 = .ok (.istore_n 2, 1) := by decide +kernel
theorem dX3_fittingHeights_4 : decode cX3_fittingHeights 4 = .ok (.iload_n 2, 1) := by decide +kernel
theorem dX3_fittingHeights_5 : decode cX3_fittingHeights 5 = .ok (.iconst 4, 1) := by decide +kernel
theorem dX3_fittingHeights_6 : decode cX3_fittingHeights 6 = .ok (.if_icmp .ge 26, 3) := by decide +kernel
theorem dX3_fittingHeights_9 : decode cX3_fittingHeights 9 = .ok (.aload_n 0, 1) := by decide +kernel
theorem dX3_fittingHeights_10 : decode cX3_fittingHeights 10 = .ok (.getfield 24, 3) := by decide +kernel
theorem dX3_fittingHeights_13 : decode cX3_fittingHeights 13 = .ok (.iload_n 2, 1) := by decide +kernel
theorem dX3_fittingHeights_14 : decode cX3_fittingHeights 14 = .ok (.laload, 1) := by decide +kernel
theorem dX3_fittingHeights_15 : decode cX3_fittingHeights 15 = .ok (.lconst 0, 1) := by decide +kernel
theorem dX3_fittingHeights_16 : decode cX3_fittingHeights 16 = .ok (.lcmp, 1) := by decide +kernel
theorem dX3_fittingHeights_17 : decode cX3_fittingHeights 17 = .ok (.ifCond .eq 9, 3) := by decide +kernel
theorem dX3_fittingHeights_20 : decode cX3_fittingHeights 20 = .ok (.iload_n 1, 1) := by decide +kernel
theorem dX3_fittingHeights_21 : decode cX3_fittingHeights 21 = .ok (.iconst 1, 1) := by decide +kernel
theorem dX3_fittingHeights_22 : decode cX3_fittingHeights 22 = .ok (.iload_n 2, 1) := by decide +kernel
theorem dX3_fittingHeights_23 : decode cX3_fittingHeights 23 = .ok (.ishl, 1) := by decide +kernel
theorem dX3_fittingHeights_24 : decode cX3_fittingHeights 24 = .ok (.ior, 1) := by decide +kernel
theorem dX3_fittingHeights_25 : decode cX3_fittingHeights 25 = .ok (.istore_n 1, 1) := by decide +kernel
theorem dX3_fittingHeights_26 : decode cX3_fittingHeights 26 = .ok (.iinc 2 1, 3) := by decide +kernel
theorem dX3_fittingHeights_29 : decode cX3_fittingHeights 29 = .ok (.goto (-25), 3) := by decide +kernel
theorem dX3_fittingHeights_32 : decode cX3_fittingHeights 32 = .ok (.iload_n 1, 1) := by decide +kernel
theorem dX3_fittingHeights_33 : decode cX3_fittingHeights 33 = .ok (.ireturn, 1) := by decide +kernel
theorem dX3_findQuestion_0 : decode cX3_findQuestion 0 = .ok (.aload_n 0, 1) := by decide +kernel
theorem dX3_findQuestion_1 : decode cX3_findQuestion 1 = .ok (.invokevirtual 70, 3) := by decide +kernel
theorem dX3_findQuestion_4 : decode cX3_findQuestion 4 = .ok (.istore_n 2, 1) := by decide +kernel
theorem dX3_findQuestion_5 : decode cX3_findQuestion 5 = .ok (.aload_n 0, 1) := by decide +kernel
theorem dX3_findQuestion_6 : decode cX3_findQuestion 6 = .ok (.iload_n 2, 1) := by decide +kernel
theorem dX3_findQuestion_7 : decode cX3_findQuestion 7 = .ok (.iconst 1, 1) := by decide +kernel
theorem dX3_findQuestion_8 : decode cX3_findQuestion 8 = .ok (.iadd, 1) := by decide +kernel
theorem dX3_findQuestion_9 : decode cX3_findQuestion 9 = .ok (.putfield 106, 3) := by decide +kernel
theorem dX3_findQuestion_12 : decode cX3_findQuestion 12 = .ok (.iconst 0, 1) := by decide +kernel
theorem dX3_findQuestion_13 : decode cX3_findQuestion 13 = .ok (.istore_n 3, 1) := by decide +kernel
theorem dX3_findQuestion_14 : decode cX3_findQuestion 14 = .ok (.iload_n 3, 1) := by decide +kernel
theorem dX3_findQuestion_15 : decode cX3_findQuestion 15 = .ok (.bipush 24, 2) := by decide +kernel
theorem dX3_findQuestion_17 : decode cX3_findQuestion 17 = .ok (.if_icmp .ge 88, 3) := by decide +kernel
theorem dX3_findQuestion_20 : decode cX3_findQuestion 20 = .ok (.aload_n 0, 1) := by decide +kernel
theorem dX3_findQuestion_21 : decode cX3_findQuestion 21 = .ok (.aload_n 1, 1) := by decide +kernel
theorem dX3_findQuestion_22 : decode cX3_findQuestion 22 = .ok (.iload_n 3, 1) := by decide +kernel
theorem dX3_findQuestion_23 : decode cX3_findQuestion 23 = .ok (.invokevirtual 63, 3) := by decide +kernel
theorem dX3_findQuestion_26 : decode cX3_findQuestion 26 = .ok (.iconst 0, 1) := by decide +kernel
theorem dX3_findQuestion_27 : decode cX3_findQuestion 27 = .ok (.istore 4, 2) := by decide +kernel
theorem dX3_findQuestion_29 : decode cX3_findQuestion 29 = .ok (.iload 4, 2) := by decide +kernel
theorem dX3_findQuestion_31 : decode cX3_findQuestion 31 = .ok (.aload_n 1, 1) := by decide +kernel
theorem dX3_findQuestion_32 : decode cX3_findQuestion 32 = .ok (.getfield 109, 3) := by decide +kernel
theorem dX3_findQuestion_35 : decode cX3_findQuestion 35 = .ok (.if_icmp .ge 64, 3) := by decide +kernel
theorem dX3_findQuestion_38 : decode cX3_findQuestion 38 = .ok (.aload_n 1, 1) := by decide +kernel
theorem dX3_findQuestion_39 : decode cX3_findQuestion 39 = .ok (.iload 4, 2) := by decide +kernel
theorem dX3_findQuestion_41 : decode cX3_findQuestion 41 = .ok (.invokevirtual 111, 3) := by decide +kernel
theorem dX3_findQuestion_44 : decode cX3_findQuestion 44 = .ok (.ifCond .eq 49, 3) := by decide +kernel
theorem dX3_findQuestion_47 : decode cX3_findQuestion 47 = .ok (.aload_n 0, 1) := by decide +kernel
theorem dX3_findQuestion_48 : decode cX3_findQuestion 48 = .ok (.aload_n 1, 1) := by decide +kernel
theorem dX3_findQuestion_49 : decode cX3_findQuestion 49 = .ok (.iload 4, 2) := by decide +kernel
theorem dX3_findQuestion_51 : decode cX3_findQuestion 51 = .ok (.invokevirtual 115, 3) := by decide +kernel
theorem dX3_findQuestion_54 : decode cX3_findQuestion 54 = .ok (.istore 5, 2) := by decide +kernel
theorem dX3_findQuestion_56 : decode cX3_findQuestion 56 = .ok (.iload 5, 2) := by decide +kernel
theorem dX3_findQuestion_58 : decode cX3_findQuestion 58 = .ok (.iload_n 2, 1) := by decide +kernel
theorem dX3_findQuestion_59 : decode cX3_findQuestion 59 = .ok (.iload 5, 2) := by decide +kernel
theorem dX3_findQuestion_61 : decode cX3_findQuestion 61 = .ok (.isub, 1) := by decide +kernel
theorem dX3_findQuestion_62 : decode cX3_findQuestion 62 = .ok (.invokestatic 119, 3) := by decide +kernel
theorem dX3_findQuestion_65 : decode cX3_findQuestion 65 = .ok (.istore 6, 2) := by decide +kernel
theorem dX3_findQuestion_67 : decode cX3_findQuestion 67 = .ok (.iload 6, 2) := by decide +kernel
theorem dX3_findQuestion_69 : decode cX3_findQuestion 69 = .ok (.aload_n 0, 1) := by decide +kernel
theorem dX3_findQuestion_70 : decode cX3_findQuestion 70 = .ok (.getfield 106, 3) := by decide +kernel
theorem dX3_findQuestion_73 : decode cX3_findQuestion 73 = .ok (.if_icmp .ge 20, 3) := by decide +kernel
theorem dX3_findQuestion_76 : decode cX3_findQuestion 76 = .ok (.aload_n 0, 1) := by decide +kernel
theorem dX3_findQuestion_77 : decode cX3_findQuestion 77 = .ok (.iload 6, 2) := by decide +kernel
theorem dX3_findQuestion_79 : decode cX3_findQuestion 79 = .ok (.putfield 106, 3) := by decide +kernel
theorem dX3_findQuestion_82 : decode cX3_findQuestion 82 = .ok (.aload_n 0, 1) := by decide +kernel
theorem dX3_findQuestion_83 : decode cX3_findQuestion 83 = .ok (.bipush 100, 2) := by decide +kernel
theorem dX3_findQuestion_85 : decode cX3_findQuestion 85 = .ok (.iload_n 3, 1) := by decide +kernel
theorem dX3_findQuestion_86 : decode cX3_findQuestion 86 = .ok (.imul, 1) := by decide +kernel
theorem dX3_findQuestion_87 : decode cX3_findQuestion 87 = .ok (.iload 4, 2) := by decide +kernel
theorem dX3_findQuestion_89 : decode cX3_findQuestion 89 = .ok (.iadd, 1) := by decide +kernel
theorem dX3_findQuestion_90 : decode cX3_findQuestion 90 = .ok (.putfield 125, 3) := by decide +kernel
theorem dX3_findQuestion_93 : decode cX3_findQuestion 93 = .ok (.iinc 4 1, 3) := by decide +kernel
theorem dX3_findQuestion_96 : decode cX3_findQuestion 96 = .ok (.goto (-67), 3) := by decide +kernel
theorem dX3_findQuestion_99 : decode cX3_findQuestion 99 = .ok (.iinc 3 1, 3) := by decide +kernel
theorem dX3_findQuestion_102 : decode cX3_findQuestion 102 = .ok (.goto (-88), 3) := by decide +kernel
theorem dX3_findQuestion_105 : decode cX3_findQuestion 105 = .ok (.return_, 1) := by decide +kernel
theorem dX3_countShading_0 : decode cX3_countShading 0 = .ok (.iconst 0, 1) := by decide +kernel
theorem dX3_countShading_1 : decode cX3_countShading 1 = .ok (.istore_n 3, 1) := by decide +kernel
theorem dX3_countShading_2 : decode cX3_countShading 2 = .ok (.iconst 0, 1) := by decide +kernel
theorem dX3_countShading_3 : decode cX3_countShading 3 = .ok (.istore 4, 2) := by decide +kernel
theorem dX3_countShading_5 : decode cX3_countShading 5 = .ok (.iload 4, 2) := by decide +kernel
theorem dX3_countShading_7 : decode cX3_countShading 7 = .ok (.iconst 4, 1) := by decide +kernel
theorem dX3_countShading_8 : decode cX3_countShading 8 = .ok (.if_icmp .ge 31, 3) := by decide +kernel
theorem dX3_countShading_11 : decode cX3_countShading 11 = .ok (.iload_n 3, 1) := by decide +kernel
theorem dX3_countShading_12 : decode cX3_countShading 12 = .ok (.aload_n 0, 1) := by decide +kernel
theorem dX3_countShading_13 : decode cX3_countShading 13 = .ok (.getfield 24, 3) := by decide +kernel
theorem dX3_countShading_16 : decode cX3_countShading 16 = .ok (.iload 4, 2) := by decide +kernel
theorem dX3_countShading_18 : decode cX3_countShading 18 = .ok (.laload, 1) := by decide +kernel
theorem dX3_countShading_19 : decode cX3_countShading 19 = .ok (.aload_n 0, 1) := by decide +kernel
theorem dX3_countShading_20 : decode cX3_countShading 20 = .ok (.aload_n 1, 1) := by decide +kernel
theorem dX3_countShading_21 : decode cX3_countShading 21 = .ok (.iload_n 2, 1) := by decide +kernel
theorem dX3_countShading_22 : decode cX3_countShading 22 = .ok (.iload 4, 2) := by decide +kernel
theorem dX3_countShading_24 : decode cX3_countShading 24 = .ok (.invokevirtual 74, 3) := by decide +kernel
theorem dX3_countShading_27 : decode cX3_countShading 27 = .ok (.land, 1) := by decide +kernel
theorem dX3_countShading_28 : decode cX3_countShading 28 = .ok (.invokestatic 80, 3) := by decide +kernel
theorem dX3_countShading_31 : decode cX3_countShading 31 = .ok (.iadd, 1) := by decide +kernel
theorem dX3_countShading_32 : decode cX3_countShading 32 = .ok (.istore_n 3, 1) := by decide +kernel
theorem dX3_countShading_33 : decode cX3_countShading 33 = .ok (.iinc 4 1, 3) := by decide +kernel
theorem dX3_countShading_36 : decode cX3_countShading 36 = .ok (.goto (-31), 3) := by decide +kernel
theorem dX3_countShading_39 : decode cX3_countShading 39 = .ok (.iload_n 3, 1) := by decide +kernel
theorem dX3_countShading_40 : decode cX3_countShading 40 = .ok (.ireturn, 1) := by decide +kernel
theorem dX4_init_0 : decode cX4_init 0 = .ok (.aload_n 0, 1) := by decide +kernel
theorem dX4_init_1 : decode cX4_init 1 = .ok (.invokespecial 3, 3) := by decide +kernel
theorem dX4_init_4 : decode cX4_init 4 = .ok (.aload_n 0, 1) := by decide +kernel
theorem dX4_init_5 : decode cX4_init 5 = .ok (.iconst 4, 1) := by decide +kernel
theorem dX4_init_6 : decode cX4_init 6 = .ok (.newarray .int, 2) := by decide +kernel
theorem dX4_init_8 : decode cX4_init 8 = .ok (.putfield 9, 3) := by decide +kernel
theorem dX4_init_11 : decode cX4_init 11 = .ok (.return_, 1) := by decide +kernel
theorem dX4_begin_0 : decode cX4_begin 0 = .ok (.iconst 0, 1) := by decide +kernel
theorem dX4_begin_1 : decode cX4_begin 1 = .ok (.istore_n 2, 1) := by decide +kernel
theorem dX4_begin_2 : decode cX4_begin 2 = .ok (.iload_n 2, 1) := by decide +kernel
theorem dX4_begin_3 : decode cX4_begin 3 = .ok (.aload_n 0, 1) := by decide +kernel
theorem dX4_begin_4 : decode cX4_begin 4 = .ok (.getfield 9, 3) := by decide +kernel
theorem dX4_begin_7 : decode cX4_begin 7 = .ok (.arraylength, 1) := by decide +kernel
theorem dX4_begin_8 : decode cX4_begin 8 = .ok (.if_icmp .ge 39, 3) := by decide +kernel
theorem dX4_begin_11 : decode cX4_begin 11 = .ok (.aload_n 0, 1) := by decide +kernel
theorem dX4_begin_12 : decode cX4_begin 12 = .ok (.getfield 9, 3) := by decide +kernel
theorem dX4_begin_15 : decode cX4_begin 15 = .ok (.iload_n 2, 1) := by decide +kernel
theorem dX4_begin_16 : decode cX4_begin 16 = .ok (.iload_n 2, 1) := by decide +kernel
theorem dX4_begin_17 : decode cX4_begin 17 = .ok (.aload_n 1, 1) := by decide +kernel
theorem dX4_begin_18 : decode cX4_begin 18 = .ok (.getfield 15, 3) := by decide +kernel
theorem dX4_begin_21 : decode cX4_begin 21 = .ok (.getfield 21, 3) := by decide +kernel
theorem dX4_begin_24 : decode cX4_begin 24 = .ok (.if_icmp .ge 15, 3) := by decide +kernel
theorem dX4_begin_27 : decode cX4_begin 27 = .ok (.aload_n 1, 1) := by decide +kernel
theorem dX4_begin_28 : decode cX4_begin 28 = .ok (.getfield 15, 3) := by decide +kernel
theorem dX4_begin_31 : decode cX4_begin 31 = .ok (.getfield 27, 3) := by decide +kernel
theorem dX4_begin_34 : decode cX4_begin 34 = .ok (.iload_n 2, 1) := by decide +kernel
theorem dX4_begin_35 : decode cX4_begin 35 = .ok (.iaload, 1) := by decide +kernel
theorem dX4_begin_36 : decode cX4_begin 36 = .ok (.goto 4, 3) := by decide +kernel
theorem dX4_begin_39 : decode cX4_begin 39 = .ok (.iconst 0, 1) := by decide +kernel
theorem dX4_begin_40 : decode cX4_begin 40 = .ok (.iastore, 1) := by decide +kernel
theorem dX4_begin_41 : decode cX4_begin 41 = .ok (.iinc 2 1, 3) := by decide +kernel
theorem dX4_begin_44 : decode cX4_begin 44 = .ok (.goto (-42), 3) := by decide +kernel
theorem dX4_begin_47 : decode cX4_begin 47 = .ok (.aload_n 0, 1) := by decide +kernel
theorem dX4_begin_48 : decode cX4_begin 48 = .ok (.iconst 0, 1) := by decide +kernel
theorem dX4_begin_49 : decode cX4_begin 49 = .ok (.putfield 30, 3) := by decide +kernel
theorem dX4_begin_52 : decode cX4_begin 52 = .ok (.aload_n 0, 1) := by decide +kernel
theorem dX4_begin_53 : decode cX4_begin 53 = .ok (.iconst 0, 1) := by decide +kernel
theorem dX4_begin_54 : decode cX4_begin 54 = .ok (.putfield 33, 3) := by decide +kernel
theorem dX4_begin_57 : decode cX4_begin 57 = .ok (.aload_n 0, 1) := by decide +kernel
theorem dX4_begin_58 : decode cX4_begin 58 = .ok (.iconst 0, 1) := by decide +kernel
theorem dX4_begin_59 : decode cX4_begin 59 = .ok (.putfield 36, 3) := by decide +kernel
theorem dX4_begin_62 : decode cX4_begin 62 = .ok (.aload_n 0, 1) := by decide +kernel
theorem dX4_begin_63 : decode cX4_begin 63 = .ok (.iconst 0, 1) := by decide +kernel
theorem dX4_begin_64 : decode cX4_begin 64 = .ok (.putfield 39, 3) := by decide +kernel
theorem dX4_begin_67 : decode cX4_begin 67 = .ok (.aload_n 0, 1) := by decide +kernel
theorem dX4_begin_68 : decode cX4_begin 68 = .ok (.iconst 0, 1) := by decide +kernel
theorem dX4_begin_69 : decode cX4_begin 69 = .ok (.putfield 43, 3) := by decide +kernel
theorem dX4_begin_72 : decode cX4_begin 72 = .ok (.return_, 1) := by decide +kernel
theorem dX4_hourOfDay_0 : decode cX4_hourOfDay 0 = .ok (.aload_n 0, 1) := by decide +kernel
theorem dX4_hourOfDay_1 : decode cX4_hourOfDay 1 = .ok (.getfield 43, 3) := by decide +kernel
theorem dX4_hourOfDay_4 : decode cX4_hourOfDay 4 = .ok (.bipush 24, 2) := by decide +kernel
theorem dX4_hourOfDay_6 : decode cX4_hourOfDay 6 = .ok (.irem, 1) := by decide +kernel
theorem dX4_hourOfDay_7 : decode cX4_hourOfDay 7 = .ok (.ireturn, 1) := by decide +kernel
theorem dX4_packed_0 : decode cX4_packed 0 = .ok (.aload_n 0, 1) := by decide +kernel
theorem dX4_packed_1 : decode cX4_packed 1 = .ok (.getfield 43, 3) := by decide +kernel
theorem dX4_packed_4 : decode cX4_packed 4 = .ok (.i2l, 1) := by decide +kernel
theorem dX4_packed_5 : decode cX4_packed 5 = .ok (.lstore_n 1, 1) := by decide +kernel
theorem dX4_packed_6 : decode cX4_packed 6 = .ok (.lload_n 1, 1) := by decide +kernel
theorem dX4_packed_7 : decode cX4_packed 7 = .ok (.iconst 1, 1) := by decide +kernel
theorem dX4_packed_8 : decode cX4_packed 8 = .ok (.lshl, 1) := by decide +kernel
theorem dX4_packed_9 : decode cX4_packed 9 = .ok (.aload_n 0, 1) := by decide +kernel
theorem dX4_packed_10 : decode cX4_packed 10 = .ok (.getfield 39, 3) := by decide +kernel
theorem dX4_packed_13 : decode cX4_packed 13 = .ok (.ifCond .eq 7, 3) := by decide +kernel
theorem dX4_packed_16 : decode cX4_packed 16 = .ok (.iconst 1, 1) := by decide +kernel
theorem dX4_packed_17 : decode cX4_packed 17 = .ok (.goto 4, 3) := by decide +kernel
theorem dX4_packed_20 : decode cX4_packed 20 = .ok (.iconst 0, 1) := by decide +kernel
theorem dX4_packed_21 : decode cX4_packed 21 = .ok (.i2l, 1) := by decide +kernel
theorem dX4_packed_22 : decode cX4_packed 22 = .ok (.lor, 1) := by decide +kernel
theorem dX4_packed_23 : decode cX4_packed 23 = .ok (.lstore_n 1, 1) := by decide +kernel
theorem dX4_packed_24 : decode cX4_packed 24 = .ok (.lload_n 1, 1) := by decide +kernel
theorem dX4_packed_25 : decode cX4_packed 25 = .ok (.iconst 4, 1) := by decide +kernel
theorem dX4_packed_26 : decode cX4_packed 26 = .ok (.lshl, 1) := by decide +kernel
theorem dX4_packed_27 : decode cX4_packed 27 = .ok (.aload_n 0, 1) := by decide +kernel
theorem dX4_packed_28 : decode cX4_packed 28 = .ok (.getfield 36, 3) := by decide +kernel
theorem dX4_packed_31 : decode cX4_packed 31 = .ok (.i2l, 1) := by decide +kernel
theorem dX4_packed_32 : decode cX4_packed 32 = .ok (.lor, 1) := by decide +kernel
theorem dX4_packed_33 : decode cX4_packed 33 = .ok (.lstore_n 1, 1) := by decide +kernel
theorem dX4_packed_34 : decode cX4_packed 34 = .ok (.lload_n 1, 1) := by decide +kernel
theorem dX4_packed_35 : decode cX4_packed 35 = .ok (.bipush 8, 2) := by decide +kernel
theorem dX4_packed_37 : decode cX4_packed 37 = .ok (.lshl, 1) := by decide +kernel
theorem dX4_packed_38 : decode cX4_packed 38 = .ok (.aload_n 0, 1) := by decide +kernel
theorem dX4_packed_39 : decode cX4_packed 39 = .ok (.getfield 33, 3) := by decide +kernel
theorem dX4_packed_42 : decode cX4_packed 42 = .ok (.i2l, 1) := by decide +kernel
theorem dX4_packed_43 : decode cX4_packed 43 = .ok (.lor, 1) := by decide +kernel
theorem dX4_packed_44 : decode cX4_packed 44 = .ok (.lstore_n 1, 1) := by decide +kernel
theorem dX4_packed_45 : decode cX4_packed 45 = .ok (.lload_n 1, 1) := by decide +kernel
theorem dX4_packed_46 : decode cX4_packed 46 = .ok (.iconst 4, 1) := by decide +kernel
theorem dX4_packed_47 : decode cX4_packed 47 = .ok (.lshl, 1) := by decide +kernel
theorem dX4_packed_48 : decode cX4_packed 48 = .ok (.aload_n 0, 1) := by decide +kernel
theorem dX4_packed_49 : decode cX4_packed 49 = .ok (.getfield 30, 3) := by decide +kernel
theorem dX4_packed_52 : decode cX4_packed 52 = .ok (.i2l, 1) := by decide +kernel
theorem dX4_packed_53 : decode cX4_packed 53 = .ok (.lor, 1) := by decide +kernel
theorem dX4_packed_54 : decode cX4_packed 54 = .ok (.lstore_n 1, 1) := by decide +kernel
theorem dX4_packed_55 : decode cX4_packed 55 = .ok (.iconst 0, 1) := by decide +kernel
theorem dX4_packed_56 : decode cX4_packed 56 = .ok (.istore_n 3, 1) := by decide +kernel
theorem dX4_packed_57 : decode cX4_packed 57 = .ok (.iload_n 3, 1) := by decide +kernel
theorem dX4_packed_58 : decode cX4_packed 58 = .ok (.aload_n 0, 1) := by decide +kernel
theorem dX4_packed_59 : decode cX4_packed 59 = .ok (.getfield 9, 3) := by decide +kernel
theorem dX4_packed_62 : decode cX4_packed 62 = .ok (.arraylength, 1) := by decide +kernel
theorem dX4_packed_63 : decode cX4_packed 63 = .ok (.if_icmp .ge 22, 3) := by decide +kernel
theorem dX4_packed_66 : decode cX4_packed 66 = .ok (.lload_n 1, 1) := by decide +kernel
theorem dX4_packed_67 : decode cX4_packed 67 = .ok (.bipush 6, 2) := by decide +kernel
theorem dX4_packed_69 : decode cX4_packed 69 = .ok (.lshl, 1) := by decide +kernel
theorem dX4_packed_70 : decode cX4_packed 70 = .ok (.aload_n 0, 1) := by decide +kernel
theorem dX4_packed_71 : decode cX4_packed 71 = .ok (.getfield 9, 3) := by decide +kernel
theorem dX4_packed_74 : decode cX4_packed 74 = .ok (.iload_n 3, 1) := by decide +kernel
theorem dX4_packed_75 : decode cX4_packed 75 = .ok (.iaload, 1) := by decide +kernel
theorem dX4_packed_76 : decode cX4_packed 76 = .ok (.i2l, 1) := by decide +kernel
theorem dX4_packed_77 : decode cX4_packed 77 = .ok (.lor, 1) := by decide +kernel
theorem dX4_packed_78 : decode cX4_packed 78 = .ok (.lstore_n 1, 1) := by decide +kernel
theorem dX4_packed_79 : decode cX4_packed 79 = .ok (.iinc 3 1, 3) := by decide +kernel
theorem dX4_packed_82 : decode cX4_packed 82 = .ok (.goto (-25), 3) := by decide +kernel
theorem dX4_packed_85 : decode cX4_packed 85 = .ok (.lload_n 1, 1) := by decide +kernel
theorem dX4_packed_86 : decode cX4_packed 86 = .ok (.lreturn, 1) := by decide +kernel
theorem dX4_unpack_0 : decode cX4_unpack 0 = .ok (.lload_n 1, 1) := by decide +kernel
theorem dX4_unpack_1 : decode cX4_unpack 1 = .ok (.lstore_n 3, 1) := by decide +kernel
theorem dX4_unpack_2 : decode cX4_unpack 2 = .ok (.aload_n 0, 1) := by decide +kernel
theorem dX4_unpack_3 : decode cX4_unpack 3 = .ok (.getfield 9, 3) := by decide +kernel
theorem dX4_unpack_6 : decode cX4_unpack 6 = .ok (.arraylength, 1) := by decide +kernel
theorem dX4_unpack_7 : decode cX4_unpack 7 = .ok (.iconst 1, 1) := by decide +kernel
theorem dX4_unpack_8 : decode cX4_unpack 8 = .ok (.isub, 1) := by decide +kernel
theorem dX4_unpack_9 : decode cX4_unpack 9 = .ok (.istore 5, 2) := by decide +kernel
theorem dX4_unpack_11 : decode cX4_unpack 11 = .ok (.iload 5, 2) := by decide +kernel
theorem dX4_unpack_13 : decode cX4_unpack 13 = .ok (.ifCond .lt 27, 3) := by decide +kernel
theorem dX4_unpack_16 : decode cX4_unpack 16 = .ok (.aload_n 0, 1) := by decide +kernel
theorem dX4_unpack_17 : decode cX4_unpack 17 = .ok (.getfield 9, 3) := by decide +kernel
theorem dX4_unpack_20 : decode cX4_unpack 20 = .ok (.iload 5, 2) := by decide +kernel
theorem dX4_unpack_22 : decode cX4_unpack 22 = .ok (.lload_n 3, 1) := by decide +kernel
theorem dX4_unpack_23 : decode cX4_unpack 23 = .ok (.ldc2_w 46, 3) := by decide +kernel
theorem dX4_unpack_26 : decode cX4_unpack 26 = .ok (.land, 1) := by decide +kernel
theorem dX4_unpack_27 : decode cX4_unpack 27 = .ok (.l2i, 1) := by decide +kernel
theorem dX4_unpack_28 : decode cX4_unpack 28 = .ok (.iastore, 1) := by decide +kernel
theorem dX4_unpack_29 : decode cX4_unpack 29 = .ok (.lload_n 3, 1) := by decide +kernel
theorem dX4_unpack_30 : decode cX4_unpack 30 = .ok (.bipush 6, 2) := by decide +kernel
theorem dX4_unpack_32 : decode cX4_unpack 32 = .ok (.lushr, 1) := by decide +kernel
theorem dX4_unpack_33 : decode cX4_unpack 33 = .ok (.lstore_n 3, 1) := by decide +kernel
theorem dX4_unpack_34 : decode cX4_unpack 34 = .ok (.iinc 5 (-1), 3) := by decide +kernel
theorem dX4_unpack_37 : decode cX4_unpack 37 = .ok (.goto (-26), 3) := by decide +kernel
theorem dX4_unpack_40 : decode cX4_unpack 40 = .ok (.aload_n 0, 1) := by decide +kernel
theorem dX4_unpack_41 : decode cX4_unpack 41 = .ok (.lload_n 3, 1) := by decide +kernel
theorem dX4_unpack_42 : decode cX4_unpack 42 = .ok (.ldc2_w 48, 3) := by decide +kernel
theorem dX4_unpack_45 : decode cX4_unpack 45 = .ok (.land, 1) := by decide +kernel
theorem dX4_unpack_46 : decode cX4_unpack 46 = .ok (.l2i, 1) := by decide +kernel
theorem dX4_unpack_47 : decode cX4_unpack 47 = .ok (.putfield 30, 3) := by decide +kernel
theorem dX4_unpack_50 : decode cX4_unpack 50 = .ok (.lload_n 3, 1) := by decide +kernel
theorem dX4_unpack_51 : decode cX4_unpack 51 = .ok (.iconst 4, 1) := by decide +kernel
theorem dX4_unpack_52 : decode cX4_unpack 52 = .ok (.lushr, 1) := by decide +kernel
theorem dX4_unpack_53 : decode cX4_unpack 53 = .ok (.lstore_n 3, 1) := by decide +kernel
theorem dX4_unpack_54 : decode cX4_unpack 54 = .ok (.aload_n 0, 1) := by decide +kernel
theorem dX4_unpack_55 : decode cX4_unpack 55 = .ok (.lload_n 3, 1) := by decide +kernel
theorem dX4_unpack_56 : decode cX4_unpack 56 = .ok (.ldc2_w 50, 3) := by decide +kernel
theorem dX4_unpack_59 : decode cX4_unpack 59 = .ok (.land, 1) := by decide +kernel
theorem dX4_unpack_60 : decode cX4_unpack 60 = .ok (.l2i, 1) := by decide +kernel
theorem dX4_unpack_61 : decode cX4_unpack 61 = .ok (.putfield 33, 3) := by decide +kernel
theorem dX4_unpack_64 : decode cX4_unpack 64 = .ok (.lload_n 3, 1) := by decide +kernel
theorem dX4_unpack_65 : decode cX4_unpack 65 = .ok (.bipush 8, 2) := by decide +kernel
theorem dX4_unpack_67 : decode cX4_unpack 67 = .ok (.lushr, 1) := by decide +kernel
theorem dX4_unpack_68 : decode cX4_unpack 68 = .ok (.lstore_n 3, 1) := by decide +kernel
theorem dX4_unpack_69 : decode cX4_unpack 69 = .ok (.aload_n 0, 1) := by decide +kernel
theorem dX4_unpack_70 : decode cX4_unpack 70 = .ok (.lload_n 3, 1) := by decide +kernel
theorem dX4_unpack_71 : decode cX4_unpack 71 = .ok (.ldc2_w 48, 3) := by decide +kernel
theorem dX4_unpack_74 : decode cX4_unpack 74 = .ok (.land, 1) := by decide +kernel
theorem dX4_unpack_75 : decode cX4_unpack 75 = .ok (.l2i, 1) := by decide +kernel
theorem dX4_unpack_76 : decode cX4_unpack 76 = .ok (.putfield 36, 3) := by decide +kernel
theorem dX4_unpack_79 : decode cX4_unpack 79 = .ok (.lload_n 3, 1) := by decide +kernel
theorem dX4_unpack_80 : decode cX4_unpack 80 = .ok (.iconst 4, 1) := by decide +kernel
theorem dX4_unpack_81 : decode cX4_unpack 81 = .ok (.lushr, 1) := by decide +kernel
theorem dX4_unpack_82 : decode cX4_unpack 82 = .ok (.lstore_n 3, 1) := by decide +kernel
theorem dX4_unpack_83 : decode cX4_unpack 83 = .ok (.aload_n 0, 1) := by decide +kernel
theorem dX4_unpack_84 : decode cX4_unpack 84 = .ok (.lload_n 3, 1) := by decide +kernel
theorem dX4_unpack_85 : decode cX4_unpack 85 = .ok (.lconst 1, 1) := by decide +kernel
theorem dX4_unpack_86 : decode cX4_unpack 86 = .ok (.land, 1) := by decide +kernel
theorem dX4_unpack_87 : decode cX4_unpack 87 = .ok (.lconst 0, 1) := by decide +kernel
theorem dX4_unpack_88 : decode cX4_unpack 88 = .ok (.lcmp, 1) := by decide +kernel
theorem dX4_unpack_89 : decode cX4_unpack 89 = .ok (.ifCond .eq 7, 3) := by decide +kernel
theorem dX4_unpack_92 : decode cX4_unpack 92 = .ok (.iconst 1, 1) := by decide +kernel
theorem dX4_unpack_93 : decode cX4_unpack 93 = .ok (.goto 4, 3) := by decide +kernel
theorem dX4_unpack_96 : decode cX4_unpack 96 = .ok (.iconst 0, 1) := by decide +kernel
theorem dX4_unpack_97 : decode cX4_unpack 97 = .ok (.putfield 39, 3) := by decide +kernel
theorem dX4_unpack_100 : decode cX4_unpack 100 = .ok (.aload_n 0, 1) := by decide +kernel
theorem dX4_unpack_101 : decode cX4_unpack 101 = .ok (.lload_n 3, 1) := by decide +kernel
theorem dX4_unpack_102 : decode cX4_unpack 102 = .ok (.iconst 1, 1) := by decide +kernel
theorem dX4_unpack_103 : decode cX4_unpack 103 = .ok (.lushr, 1) := by decide +kernel
theorem dX4_unpack_104 : decode cX4_unpack 104 = .ok (.l2i, 1) := by decide +kernel
theorem dX4_unpack_105 : decode cX4_unpack 105 = .ok (.putfield 43, 3) := by decide +kernel
theorem dX4_unpack_108 : decode cX4_unpack 108 = .ok (.return_, 1) := by decide +kernel
theorem dX5_init_0 : decode cX5_init 0 = .ok (.aload_n 0, 1) := by decide +kernel
theorem dX5_init_1 : decode cX5_init 1 = .ok (.invokespecial 3, 3) := by decide +kernel
theorem dX5_init_4 : decode cX5_init 4 = .ok (.aload_n 0, 1) := by decide +kernel
theorem dX5_init_5 : decode cX5_init 5 = .ok (.new 9, 3) := by decide +kernel
theorem dX5_init_8 : decode cX5_init 8 = .ok (.dup, 1) := by decide +kernel
theorem dX5_init_9 : decode cX5_init 9 = .ok (.bipush 8, 2) := by decide +kernel
theorem dX5_init_11 : decode cX5_init 11 = .ok (.invokespecial 11, 3) := by decide +kernel
theorem dX5_init_14 : decode cX5_init 14 = .ok (.putfield 14, 3) := by decide +kernel
theorem dX5_init_17 : decode cX5_init 17 = .ok (.aload_n 0, 1) := by decide +kernel
theorem dX5_init_18 : decode cX5_init 18 = .ok (.new 9, 3) := by decide +kernel
theorem dX5_init_21 : decode cX5_init 21 = .ok (.dup, 1) := by decide +kernel
theorem dX5_init_22 : decode cX5_init 22 = .ok (.iconst 4, 1) := by decide +kernel
theorem dX5_init_23 : decode cX5_init 23 = .ok (.invokespecial 11, 3) := by decide +kernel
theorem dX5_init_26 : decode cX5_init 26 = .ok (.putfield 20, 3) := by decide +kernel
theorem dX5_init_29 : decode cX5_init 29 = .ok (.aload_n 0, 1) := by decide +kernel
theorem dX5_init_30 : decode cX5_init 30 = .ok (.new 9, 3) := by decide +kernel
theorem dX5_init_33 : decode cX5_init 33 = .ok (.dup, 1) := by decide +kernel
theorem dX5_init_34 : decode cX5_init 34 = .ok (.iconst 4, 1) := by decide +kernel
theorem dX5_init_35 : decode cX5_init 35 = .ok (.invokespecial 11, 3) := by decide +kernel
theorem dX5_init_38 : decode cX5_init 38 = .ok (.putfield 23, 3) := by decide +kernel
theorem dX5_init_41 : decode cX5_init 41 = .ok (.aload_n 0, 1) := by decide +kernel
theorem dX5_init_42 : decode cX5_init 42 = .ok (.new 26, 3) := by decide +kernel
theorem dX5_init_45 : decode cX5_init 45 = .ok (.dup, 1) := by decide +kernel
theorem dX5_init_46 : decode cX5_init 46 = .ok (.invokespecial 28, 3) := by decide +kernel
theorem dX5_init_49 : decode cX5_init 49 = .ok (.putfield 29, 3) := by decide +kernel
theorem dX5_init_52 : decode cX5_init 52 = .ok (.aload_n 0, 1) := by decide +kernel
theorem dX5_init_53 : decode cX5_init 53 = .ok (.bipush 32, 2) := by decide +kernel
theorem dX5_init_55 : decode cX5_init 55 = .ok (.newarray .long, 2) := by decide +kernel
theorem dX5_init_57 : decode cX5_init 57 = .ok (.putfield 33, 3) := by decide +kernel
theorem dX5_init_60 : decode cX5_init 60 = .ok (.aload_n 0, 1) := by decide +kernel
theorem dX5_init_61 : decode cX5_init 61 = .ok (.invokevirtual 37, 3) := by decide +kernel
theorem dX5_init_64 : decode cX5_init 64 = .ok (.aload_n 0, 1) := by decide +kernel
theorem dX5_init_65 : decode cX5_init 65 = .ok (.invokevirtual 40, 3) := by decide +kernel
theorem dX5_init_68 : decode cX5_init 68 = .ok (.return_, 1) := by decide +kernel
theorem dX5_clear_0 : decode cX5_clear 0 = .ok (.aload_n 0, 1) := by decide +kernel
theorem dX5_clear_1 : decode cX5_clear 1 = .ok (.bipush 6, 2) := by decide +kernel
theorem dX5_clear_3 : decode cX5_clear 3 = .ok (.bipush 6, 2) := by decide +kernel
theorem dX5_clear_5 : decode cX5_clear 5 = .ok (.invokevirtual 43, 3) := by decide +kernel
theorem dX5_clear_8 : decode cX5_clear 8 = .ok (.aload_n 0, 1) := by decide +kernel
theorem dX5_clear_9 : decode cX5_clear 9 = .ok (.lconst 0, 1) := by decide +kernel
theorem dX5_clear_10 : decode cX5_clear 10 = .ok (.putfield 47, 3) := by decide +kernel
theorem dX5_clear_13 : decode cX5_clear 13 = .ok (.aload_n 0, 1) := by decide +kernel
theorem dX5_clear_14 : decode cX5_clear 14 = .ok (.getfield 14, 3) := by decide +kernel
theorem dX5_clear_17 : decode cX5_clear 17 = .ok (.iconst 0, 1) := by decide +kernel
theorem dX5_clear_18 : decode cX5_clear 18 = .ok (.putfield 51, 3) := by decide +kernel
theorem dX5_clear_21 : decode cX5_clear 21 = .ok (.aload_n 0, 1) := by decide +kernel
theorem dX5_clear_22 : decode cX5_clear 22 = .ok (.getfield 20, 3) := by decide +kernel
theorem dX5_clear_25 : decode cX5_clear 25 = .ok (.iconst 0, 1) := by decide +kernel
theorem dX5_clear_26 : decode cX5_clear 26 = .ok (.putfield 51, 3) := by decide +kernel
theorem dX5_clear_29 : decode cX5_clear 29 = .ok (.aload_n 0, 1) := by decide +kernel
theorem dX5_clear_30 : decode cX5_clear 30 = .ok (.getfield 23, 3) := by decide +kernel
theorem dX5_clear_33 : decode cX5_clear 33 = .ok (.iconst 0, 1) := by decide +kernel
theorem dX5_clear_34 : decode cX5_clear 34 = .ok (.putfield 51, 3) := by decide +kernel
theorem dX5_clear_37 : decode cX5_clear 37 = .ok (.aload_n 0, 1) := by decide +kernel
theorem dX5_clear_38 : decode cX5_clear 38 = .ok (.getfield 29, 3) := by decide +kernel
theorem dX5_clear_41 : decode cX5_clear 41 = .ok (.invokevirtual 55, 3) := by decide +kernel
theorem dX5_clear_44 : decode cX5_clear 44 = .ok (.aload_n 0, 1) := by decide +kernel
theorem dX5_clear_45 : decode cX5_clear 45 = .ok (.iconst 0, 1) := by decide +kernel
theorem dX5_clear_46 : decode cX5_clear 46 = .ok (.putfield 56, 3) := by decide +kernel
theorem dX5_clear_49 : decode cX5_clear 49 = .ok (.return_, 1) := by decide +kernel
theorem dX5_setSize_0 : decode cX5_setSize 0 = .ok (.aload_n 0, 1) := by decide +kernel
theorem dX5_setSize_1 : decode cX5_setSize 1 = .ok (.iload_n 1, 1) := by decide +kernel
theorem dX5_setSize_2 : decode cX5_setSize 2 = .ok (.putfield 59, 3) := by decide +kernel
theorem dX5_setSize_5 : decode cX5_setSize 5 = .ok (.aload_n 0, 1) := by decide +kernel
theorem dX5_setSize_6 : decode cX5_setSize 6 = .ok (.iload_n 2, 1) := by decide +kernel
theorem dX5_setSize_7 : decode cX5_setSize 7 = .ok (.putfield 62, 3) := by decide +kernel
theorem dX5_setSize_10 : decode cX5_setSize 10 = .ok (.aload_n 0, 1) := by decide +kernel
theorem dX5_setSize_11 : decode cX5_setSize 11 = .ok (.iload_n 1, 1) := by decide +kernel
theorem dX5_setSize_12 : decode cX5_setSize 12 = .ok (.iload_n 2, 1) := by decide +kernel
theorem dX5_setSize_13 : decode cX5_setSize 13 = .ok (.imul, 1) := by decide +kernel
theorem dX5_setSize_14 : decode cX5_setSize 14 = .ok (.putfield 65, 3) := by decide +kernel
theorem dX5_setSize_17 : decode cX5_setSize 17 = .ok (.return_, 1) := by decide +kernel
theorem dX5_settle_0 : decode cX5_settle 0 = .ok (.aload_n 0, 1) := by decide +kernel
theorem dX5_settle_1 : decode cX5_settle 1 = .ok (.aload_n 0, 1) := by decide +kernel
theorem dX5_settle_2 : decode cX5_settle 2 = .ok (.getfield 65, 3) := by decide +kernel
theorem dX5_settle_5 : decode cX5_settle 5 = .ok (.bipush 64, 2) := by decide +kernel
theorem dX5_settle_7 : decode cX5_settle 7 = .ok (.if_icmp .lt 9, 3) := by decide +kernel
theorem dX5_settle_10 : decode cX5_settle 10 = .ok (.ldc2_w 68, 3) := by decide +kernel
theorem dX5_settle_13 : decode cX5_settle 13 = .ok (.goto 11, 3) := by decide +kernel
theorem dX5_settle_16 : decode cX5_settle 16 = .ok (.lconst 1, 1) := by decide +kernel
theorem dX5_settle_17 : decode cX5_settle 17 = .ok (.aload_n 0, 1) := by decide +kernel
theorem dX5_settle_18 : decode cX5_settle 18 = .ok (.getfield 65, 3) := by decide +kernel
theorem dX5_settle_21 : decode cX5_settle 21 = .ok (.lshl, 1) := by decide +kernel
theorem dX5_settle_22 : decode cX5_settle 22 = .ok (.lconst 1, 1) := by decide +kernel
theorem dX5_settle_23 : decode cX5_settle 23 = .ok (.lsub, 1) := by decide +kernel
theorem dX5_settle_24 : decode cX5_settle 24 = .ok (.aload_n 0, 1) := by decide +kernel
theorem dX5_settle_25 : decode cX5_settle 25 = .ok (.getfield 47, 3) := by decide +kernel
theorem dX5_settle_28 : decode cX5_settle 28 = .ok (.ldc2_w 68, 3) := by decide +kernel
theorem dX5_settle_31 : decode cX5_settle 31 = .ok (.lxor, 1) := by decide +kernel
theorem dX5_settle_32 : decode cX5_settle 32 = .ok (.land, 1) := by decide +kernel
theorem dX5_settle_33 : decode cX5_settle 33 = .ok (.putfield 70, 3) := by decide +kernel
theorem dX5_settle_36 : decode cX5_settle 36 = .ok (.aload_n 0, 1) := by decide +kernel
theorem dX5_settle_37 : decode cX5_settle 37 = .ok (.lconst 0, 1) := by decide +kernel
theorem dX5_settle_38 : decode cX5_settle 38 = .ok (.putfield 73, 3) := by decide +kernel
theorem dX5_settle_41 : decode cX5_settle 41 = .ok (.iconst 0, 1) := by decide +kernel
theorem dX5_settle_42 : decode cX5_settle 42 = .ok (.istore_n 1, 1) := by decide +kernel
theorem dX5_settle_43 : decode cX5_settle 43 = .ok (.iload_n 1, 1) := by decide +kernel
theorem dX5_settle_44 : decode cX5_settle 44 = .ok (.aload_n 0, 1) := by decide +kernel
theorem dX5_settle_45 : decode cX5_settle 45 = .ok (.getfield 62, 3) := by decide +kernel
theorem dX5_settle_48 : decode cX5_settle 48 = .ok (.if_icmp .ge 26, 3) := by decide +kernel
theorem dX5_settle_51 : decode cX5_settle 51 = .ok (.aload_n 0, 1) := by decide +kernel
theorem dX5_settle_52 : decode cX5_settle 52 = .ok (.dup, 1) := by decide +kernel
theorem dX5_settle_53 : decode cX5_settle 53 = .ok (.getfield 73, 3) := by decide +kernel
theorem dX5_settle_56 : decode cX5_settle 56 = .ok (.lconst 1, 1) := by decide +kernel
theorem dX5_settle_57 : decode cX5_settle 57 = .ok (.iload_n 1, 1) := by decide +kernel
theorem dX5_settle_58 : decode cX5_settle 58 = .ok (.aload_n 0, 1) := by decide +kernel
theorem dX5_settle_59 : decode cX5_settle 59 = .ok (.getfield 59, 3) := by decide +kernel
theorem dX5_settle_62 : decode cX5_settle 62 = .ok (.imul, 1) := by decide +kernel
theorem dX5_settle_63 : decode cX5_settle 63 = .ok (.lshl, 1) := by decide +kernel
theorem dX5_settle_64 : decode cX5_settle 64 = .ok (.lor, 1) := by decide +kernel
theorem dX5_settle_65 : decode cX5_settle 65 = .ok (.putfield 73, 3) := by decide +kernel
theorem dX5_settle_68 : decode cX5_settle 68 = .ok (.iinc 1 1, 3) := by decide +kernel
theorem dX5_settle_71 : decode cX5_settle 71 = .ok (.goto (-28), 3) := by decide +kernel
theorem dX5_settle_74 : decode cX5_settle 74 = .ok (.iconst 0, 1) := by decide +kernel
theorem dX5_settle_75 : decode cX5_settle 75 = .ok (.istore_n 1, 1) := by decide +kernel
theorem dX5_settle_76 : decode cX5_settle 76 = .ok (.iload_n 1, 1) := by decide +kernel
theorem dX5_settle_77 : decode cX5_settle 77 = .ok (.aload_n 0, 1) := by decide +kernel
theorem dX5_settle_78 : decode cX5_settle 78 = .ok (.getfield 14, 3) := by decide +kernel
theorem dX5_settle_81 : decode cX5_settle 81 = .ok (.getfield 51, 3) := by decide +kernel
theorem dX5_settle_84 : decode cX5_settle 84 = .ok (.if_icmp .ge 69, 3) := by decide +kernel
theorem dX5_settle_87 : decode cX5_settle 87 = .ok (.iconst 0, 1) := by decide +kernel
theorem dX5_settle_88 : decode cX5_settle 88 = .ok (.istore_n 2, 1) := by decide +kernel
theorem dX5_settle_89 : decode cX5_settle 89 = .ok (.iload_n 2, 1) := by decide +kernel
theorem dX5_settle_90 : decode cX5_settle 90 = .ok (.aload_n 0, 1) := by decide +kernel
theorem dX5_settle_91 : decode cX5_settle 91 = .ok (.getfield 20, 3) := by decide +kernel
theorem dX5_settle_94 : decode cX5_settle 94 = .ok (.getfield 51, 3) := by decide +kernel
theorem dX5_settle_97 : decode cX5_settle 97 = .ok (.if_icmp .ge 50, 3) := by decide +kernel
theorem dX5_settle_100 : decode cX5_settle 100 = .ok (.aload_n 0, 1) := by decide +kernel
theorem dX5_settle_101 : decode cX5_settle 101 = .ok (.getfield 33, 3) := by decide +kernel
theorem dX5_settle_104 : decode cX5_settle 104 = .ok (.iload_n 1, 1) := by decide +kernel
theorem dX5_settle_105 : decode cX5_settle 105 = .ok (.iconst 4, 1) := by decide +kernel
theorem dX5_settle_106 : decode cX5_settle 106 = .ok (.imul, 1) := by decide +kernel
theorem dX5_settle_107 : decode cX5_settle 107 = .ok (.iload_n 2, 1) := by decide +kernel
theorem dX5_settle_108 : decode cX5_settle 108 = .ok (.iadd, 1) := by decide +kernel
theorem dX5_settle_109 : decode cX5_settle 109 = .ok (.aload_n 0, 1) := by decide +kernel
theorem dX5_settle_110 : decode cX5_settle 110 = .ok (.aload_n 0, 1) := by decide +kernel
theorem dX5_settle_111 : decode cX5_settle 111 = .ok (.getfield 20, 3) := by decide +kernel
theorem dX5_settle_114 : decode cX5_settle 114 = .ok (.getfield 76, 3) := by decide +kernel
theorem dX5_settle_117 : decode cX5_settle 117 = .ok (.iload_n 2, 1) := by decide +kernel
theorem dX5_settle_118 : decode cX5_settle 118 = .ok (.iaload, 1) := by decide +kernel
theorem dX5_settle_119 : decode cX5_settle 119 = .ok (.aload_n 0, 1) := by decide +kernel
theorem dX5_settle_120 : decode cX5_settle 120 = .ok (.getfield 14, 3) := by decide +kernel
theorem dX5_settle_123 : decode cX5_settle 123 = .ok (.getfield 76, 3) := by decide +kernel
theorem dX5_settle_126 : decode cX5_settle 126 = .ok (.iload_n 1, 1) := by decide +kernel
theorem dX5_settle_127 : decode cX5_settle 127 = .ok (.iaload, 1) := by decide +kernel
theorem dX5_settle_128 : decode cX5_settle 128 = .ok (.aload_n 0, 1) := by decide +kernel
theorem dX5_settle_129 : decode cX5_settle 129 = .ok (.getfield 14, 3) := by decide +kernel
theorem dX5_settle_132 : decode cX5_settle 132 = .ok (.getfield 79, 3) := by decide +kernel
theorem dX5_settle_135 : decode cX5_settle 135 = .ok (.iload_n 1, 1) := by decide +kernel
theorem dX5_settle_136 : decode cX5_settle 136 = .ok (.iaload, 1) := by decide +kernel
theorem dX5_settle_137 : decode cX5_settle 137 = .ok (.invokevirtual 82, 3) := by decide +kernel
theorem dX5_settle_140 : decode cX5_settle 140 = .ok (.lastore, 1) := by decide +kernel
theorem dX5_settle_141 : decode cX5_settle 141 = .ok (.iinc 2 1, 3) := by decide +kernel
theorem dX5_settle_144 : decode cX5_settle 144 = .ok (.goto (-55), 3) := by decide +kernel
theorem dX5_settle_147 : decode cX5_settle 147 = .ok (.iinc 1 1, 3) := by decide +kernel
theorem dX5_settle_150 : decode cX5_settle 150 = .ok (.goto (-74), 3) := by decide +kernel
theorem dX5_settle_153 : decode cX5_settle 153 = .ok (.return_, 1) := by decide +kernel
theorem dX5_canStand_0 : decode cX5_canStand 0 = .ok (.iload_n 1, 1) := by decide +kernel
theorem dX5_canStand_1 : decode cX5_canStand 1 = .ok (.ifCond .lt 28, 3) := by decide +kernel
theorem dX5_canStand_4 : decode cX5_canStand 4 = .ok (.iload_n 1, 1) := by decide +kernel
theorem dX5_canStand_5 : decode cX5_canStand 5 = .ok (.aload_n 0, 1) := by decide +kernel
theorem dX5_canStand_6 : decode cX5_canStand 6 = .ok (.getfield 65, 3) := by decide +kernel
theorem dX5_canStand_9 : decode cX5_canStand 9 = .ok (.if_icmp .ge 20, 3) := by decide +kernel
theorem dX5_canStand_12 : decode cX5_canStand 12 = .ok (.aload_n 0, 1) := by decide +kernel
theorem dX5_canStand_13 : decode cX5_canStand 13 = .ok (.getfield 70, 3) := by decide +kernel
theorem dX5_canStand_16 : decode cX5_canStand 16 = .ok (.iload_n 1, 1) := by decide +kernel
theorem dX5_canStand_17 : decode cX5_canStand 17 = .ok (.lushr, 1) := by decide +kernel
theorem dX5_canStand_18 : decode cX5_canStand 18 = .ok (.lconst 1, 1) := by decide +kernel
theorem dX5_canStand_19 : decode cX5_canStand 19 = .ok (.land, 1) := by decide +kernel
theorem dX5_canStand_20 : decode cX5_canStand 20 = .ok (.lconst 0, 1) := by decide +kernel
theorem dX5_canStand_21 : decode cX5_canStand 21 = .ok (.lcmp, 1) := by decide +kernel
theorem dX5_canStand_22 : decode cX5_canStand 22 = .ok (.ifCond .eq 7, 3) := by decide +kernel
theorem dX5_canStand_25 : decode cX5_canStand 25 = .ok (.iconst 1, 1) := by decide +kernel
theorem dX5_canStand_26 : decode cX5_canStand 26 = .ok (.goto 4, 3) := by decide +kernel
theorem dX5_canStand_29 : decode cX5_canStand 29 = .ok (.iconst 0, 1) := by decide +kernel
theorem dX5_canStand_30 : decode cX5_canStand 30 = .ok (.ireturn, 1) := by decide +kernel
theorem dX5_rowBits_0 : decode cX5_rowBits 0 = .ok (.aload_n 0, 1) := by decide +kernel
theorem dX5_rowBits_1 : decode cX5_rowBits 1 = .ok (.getfield 59, 3) := by decide +kernel
theorem dX5_rowBits_4 : decode cX5_rowBits 4 = .ok (.ifCond .le 12, 3) := by decide +kernel
theorem dX5_rowBits_7 : decode cX5_rowBits 7 = .ok (.iload_n 1, 1) := by decide +kernel
theorem dX5_rowBits_8 : decode cX5_rowBits 8 = .ok (.aload_n 0, 1) := by decide +kernel
theorem dX5_rowBits_9 : decode cX5_rowBits 9 = .ok (.getfield 59, 3) := by decide +kernel
theorem dX5_rowBits_12 : decode cX5_rowBits 12 = .ok (.irem, 1) := by decide +kernel
theorem dX5_rowBits_13 : decode cX5_rowBits 13 = .ok (.goto 4, 3) := by decide +kernel
theorem dX5_rowBits_16 : decode cX5_rowBits 16 = .ok (.iconst 0, 1) := by decide +kernel
theorem dX5_rowBits_17 : decode cX5_rowBits 17 = .ok (.istore_n 3, 1) := by decide +kernel
theorem dX5_rowBits_18 : decode cX5_rowBits 18 = .ok (.iload_n 2, 1) := by decide +kernel
theorem dX5_rowBits_19 : decode cX5_rowBits 19 = .ok (.ifCond .le 28, 3) := by decide +kernel
theorem dX5_rowBits_22 : decode cX5_rowBits 22 = .ok (.iload_n 2, 1) := by decide +kernel
theorem dX5_rowBits_23 : decode cX5_rowBits 23 = .ok (.aload_n 0, 1) := by decide +kernel
theorem dX5_rowBits_24 : decode cX5_rowBits 24 = .ok (.getfield 59, 3) := by decide +kernel
theorem dX5_rowBits_27 : decode cX5_rowBits 27 = .ok (.iconst 1, 1) := by decide +kernel
theorem dX5_rowBits_28 : decode cX5_rowBits 28 = .ok (.isub, 1) := by decide +kernel
theorem dX5_rowBits_29 : decode cX5_rowBits 29 = .ok (.iload_n 3, 1) := by decide +kernel
theorem dX5_rowBits_30 : decode cX5_rowBits 30 = .ok (.isub, 1) := by decide +kernel
theorem dX5_rowBits_31 : decode cX5_rowBits 31 = .ok (.invokestatic 86, 3) := by decide +kernel
theorem dX5_rowBits_34 : decode cX5_rowBits 34 = .ok (.istore 4, 2) := by decide +kernel
theorem dX5_rowBits_36 : decode cX5_rowBits 36 = .ok (.lconst 1, 1) := by decide +kernel
theorem dX5_rowBits_37 : decode cX5_rowBits 37 = .ok (.iload 4, 2) := by decide +kernel
theorem dX5_rowBits_39 : decode cX5_rowBits 39 = .ok (.lshl, 1) := by decide +kernel
theorem dX5_rowBits_40 : decode cX5_rowBits 40 = .ok (.lconst 1, 1) := by decide +kernel
theorem dX5_rowBits_41 : decode cX5_rowBits 41 = .ok (.lsub, 1) := by decide +kernel
theorem dX5_rowBits_42 : decode cX5_rowBits 42 = .ok (.iload_n 1, 1) := by decide +kernel
theorem dX5_rowBits_43 : decode cX5_rowBits 43 = .ok (.iconst 1, 1) := by decide +kernel
theorem dX5_rowBits_44 : decode cX5_rowBits 44 = .ok (.iadd, 1) := by decide +kernel
theorem dX5_rowBits_45 : decode cX5_rowBits 45 = .ok (.lshl, 1) := by decide +kernel
theorem dX5_rowBits_46 : decode cX5_rowBits 46 = .ok (.lreturn, 1) := by decide +kernel
theorem dX5_rowBits_47 : decode cX5_rowBits 47 = .ok (.iload_n 2, 1) := by decide +kernel
theorem dX5_rowBits_48 : decode cX5_rowBits 48 = .ok (.bipush (-8), 2) := by decide +kernel
theorem dX5_rowBits_50 : decode cX5_rowBits 50 = .ok (.invokestatic 92, 3) := by decide +kernel
theorem dX5_rowBits_53 : decode cX5_rowBits 53 = .ok (.ineg, 1) := by decide +kernel
theorem dX5_rowBits_54 : decode cX5_rowBits 54 = .ok (.iload_n 3, 1) := by decide +kernel
theorem dX5_rowBits_55 : decode cX5_rowBits 55 = .ok (.invokestatic 86, 3) := by decide +kernel
theorem dX5_rowBits_58 : decode cX5_rowBits 58 = .ok (.istore 4, 2) := by decide +kernel
theorem dX5_rowBits_60 : decode cX5_rowBits 60 = .ok (.lconst 1, 1) := by decide +kernel
theorem dX5_rowBits_61 : decode cX5_rowBits 61 = .ok (.iload 4, 2) := by decide +kernel
theorem dX5_rowBits_63 : decode cX5_rowBits 63 = .ok (.lshl, 1) := by decide +kernel
theorem dX5_rowBits_64 : decode cX5_rowBits 64 = .ok (.lconst 1, 1) := by decide +kernel
theorem dX5_rowBits_65 : decode cX5_rowBits 65 = .ok (.lsub, 1) := by decide +kernel
theorem dX5_rowBits_66 : decode cX5_rowBits 66 = .ok (.iload_n 1, 1) := by decide +kernel
theorem dX5_rowBits_67 : decode cX5_rowBits 67 = .ok (.iload 4, 2) := by decide +kernel
theorem dX5_rowBits_69 : decode cX5_rowBits 69 = .ok (.isub, 1) := by decide +kernel
theorem dX5_rowBits_70 : decode cX5_rowBits 70 = .ok (.lshl, 1) := by decide +kernel
theorem dX5_rowBits_71 : decode cX5_rowBits 71 = .ok (.lreturn, 1) := by decide +kernel
theorem dX5_columnBits_0 : decode cX5_columnBits 0 = .ok (.iload_n 2, 1) := by decide +kernel
theorem dX5_columnBits_1 : decode cX5_columnBits 1 = .ok (.ifCond .ge 11, 3) := by decide +kernel
theorem dX5_columnBits_4 : decode cX5_columnBits 4 = .ok (.aload_n 0, 1) := by decide +kernel
theorem dX5_columnBits_5 : decode cX5_columnBits 5 = .ok (.getfield 59, 3) := by decide +kernel
theorem dX5_columnBits_8 : decode cX5_columnBits 8 = .ok (.ineg, 1) := by decide +kernel
theorem dX5_columnBits_9 : decode cX5_columnBits 9 = .ok (.goto 7, 3) := by decide +kernel
theorem dX5_columnBits_12 : decode cX5_columnBits 12 = .ok (.aload_n 0, 1) := by decide +kernel
theorem dX5_columnBits_13 : decode cX5_columnBits 13 = .ok (.getfield 59, 3) := by decide +kernel
theorem dX5_columnBits_16 : decode cX5_columnBits 16 = .ok (.istore_n 3, 1) := by decide +kernel
theorem dX5_columnBits_17 : decode cX5_columnBits 17 = .ok (.iload_n 2, 1) := by decide +kernel
theorem dX5_columnBits_18 : decode cX5_columnBits 18 = .ok (.invokestatic 95, 3) := by decide +kernel
theorem dX5_columnBits_21 : decode cX5_columnBits 21 = .ok (.istore 4, 2) := by decide +kernel
theorem dX5_columnBits_23 : decode cX5_columnBits 23 = .ok (.lconst 0, 1) := by decide +kernel
theorem dX5_columnBits_24 : decode cX5_columnBits 24 = .ok (.lstore 5, 2) := by decide +kernel
theorem dX5_columnBits_26 : decode cX5_columnBits 26 = .ok (.iload_n 1, 1) := by decide +kernel
theorem dX5_columnBits_27 : decode cX5_columnBits 27 = .ok (.iload_n 3, 1) := by decide +kernel
theorem dX5_columnBits_28 : decode cX5_columnBits 28 = .ok (.iadd, 1) := by decide +kernel
theorem dX5_columnBits_29 : decode cX5_columnBits 29 = .ok (.istore 7, 2) := by decide +kernel
theorem dX5_columnBits_31 : decode cX5_columnBits 31 = .ok (.iconst 0, 1) := by decide +kernel
theorem dX5_columnBits_32 : decode cX5_columnBits 32 = .ok (.istore 8, 2) := by decide +kernel
theorem dX5_columnBits_34 : decode cX5_columnBits 34 = .ok (.iload 8, 2) := by decide +kernel
theorem dX5_columnBits_36 : decode cX5_columnBits 36 = .ok (.iload 4, 2) := by decide +kernel
theorem dX5_columnBits_38 : decode cX5_columnBits 38 = .ok (.if_icmp .ge 38, 3) := by decide +kernel
theorem dX5_columnBits_41 : decode cX5_columnBits 41 = .ok (.iload 7, 2) := by decide +kernel
theorem dX5_columnBits_43 : decode cX5_columnBits 43 = .ok (.ifCond .lt 33, 3) := by decide +kernel
theorem dX5_columnBits_46 : decode cX5_columnBits 46 = .ok (.iload 7, 2) := by decide +kernel
theorem dX5_columnBits_48 : decode cX5_columnBits 48 = .ok (.aload_n 0, 1) := by decide +kernel
theorem dX5_columnBits_49 : decode cX5_columnBits 49 = .ok (.getfield 65, 3) := by decide +kernel
theorem dX5_columnBits_52 : decode cX5_columnBits 52 = .ok (.if_icmp .ge 24, 3) := by decide +kernel
theorem dX5_columnBits_55 : decode cX5_columnBits 55 = .ok (.lload 5, 2) := by decide +kernel
theorem dX5_columnBits_57 : decode cX5_columnBits 57 = .ok (.lconst 1, 1) := by decide +kernel
theorem dX5_columnBits_58 : decode cX5_columnBits 58 = .ok (.iload 7, 2) := by decide +kernel
theorem dX5_columnBits_60 : decode cX5_columnBits 60 = .ok (.lshl, 1) := by decide +kernel
theorem dX5_columnBits_61 : decode cX5_columnBits 61 = .ok (.lor, 1) := by decide +kernel
theorem dX5_columnBits_62 : decode cX5_columnBits 62 = .ok (.lstore 5, 2) := by decide +kernel
theorem dX5_columnBits_64 : decode cX5_columnBits 64 = .ok (.iload 7, 2) := by decide +kernel
theorem dX5_columnBits_66 : decode cX5_columnBits 66 = .ok (.iload_n 3, 1) := by decide +kernel
theorem dX5_columnBits_67 : decode cX5_columnBits 67 = .ok (.iadd, 1) := by decide +kernel
theorem dX5_columnBits_68 : decode cX5_columnBits 68 = .ok (.istore 7, 2) := by decide +kernel
theorem dX5_columnBits_70 : decode cX5_columnBits 70 = .ok (.iinc 8 1, 3) := by decide +kernel
theorem dX5_columnBits_73 : decode cX5_columnBits 73 = .ok (.goto (-39), 3) := by decide +kernel
theorem dX5_columnBits_76 : decode cX5_columnBits 76 = .ok (.lload 5, 2) := by decide +kernel
theorem dX5_columnBits_78 : decode cX5_columnBits 78 = .ok (.lreturn, 1) := by decide +kernel
theorem dX5_castBy_0 : decode cX5_castBy 0 = .ok (.aload_n 0, 1) := by decide +kernel
theorem dX5_castBy_1 : decode cX5_castBy 1 = .ok (.getfield 59, 3) := by decide +kernel
theorem dX5_castBy_4 : decode cX5_castBy 4 = .ok (.ifCond .gt 5, 3) := by decide +kernel
theorem dX5_castBy_7 : decode cX5_castBy 7 = .ok (.lconst 0, 1) := by decide +kernel
theorem dX5_castBy_8 : decode cX5_castBy 8 = .ok (.lreturn, 1) := by decide +kernel
theorem dX5_castBy_9 : decode cX5_castBy 9 = .ok (.iload_n 1, 1) := by decide +kernel
theorem dX5_castBy_10 : decode cX5_castBy 10 = .ok (.aload_n 0, 1) := by decide +kernel
theorem dX5_castBy_11 : decode cX5_castBy 11 = .ok (.getfield 59, 3) := by decide +kernel
theorem dX5_castBy_14 : decode cX5_castBy 14 = .ok (.irem, 1) := by decide +kernel
theorem dX5_castBy_15 : decode cX5_castBy 15 = .ok (.iload_n 2, 1) := by decide +kernel
theorem dX5_castBy_16 : decode cX5_castBy 16 = .ok (.aload_n 0, 1) := by decide +kernel
theorem dX5_castBy_17 : decode cX5_castBy 17 = .ok (.getfield 59, 3) := by decide +kernel
theorem dX5_castBy_20 : decode cX5_castBy 20 = .ok (.irem, 1) := by decide +kernel
theorem dX5_castBy_21 : decode cX5_castBy 21 = .ok (.isub, 1) := by decide +kernel
theorem dX5_castBy_22 : decode cX5_castBy 22 = .ok (.istore 4, 2) := by decide +kernel
theorem dX5_castBy_24 : decode cX5_castBy 24 = .ok (.iload_n 1, 1) := by decide +kernel
theorem dX5_castBy_25 : decode cX5_castBy 25 = .ok (.aload_n 0, 1) := by decide +kernel
theorem dX5_castBy_26 : decode cX5_castBy 26 = .ok (.getfield 59, 3) := by decide +kernel
theorem dX5_castBy_29 : decode cX5_castBy 29 = .ok (.idiv, 1) := by decide +kernel
theorem dX5_castBy_30 : decode cX5_castBy 30 = .ok (.iload_n 2, 1) := by decide +kernel
theorem dX5_castBy_31 : decode cX5_castBy 31 = .ok (.aload_n 0, 1) := by decide +kernel
theorem dX5_castBy_32 : decode cX5_castBy 32 = .ok (.getfield 59, 3) := by decide +kernel
theorem dX5_castBy_35 : decode cX5_castBy 35 = .ok (.idiv, 1) := by decide +kernel
theorem dX5_castBy_36 : decode cX5_castBy 36 = .ok (.isub, 1) := by decide +kernel
theorem dX5_castBy_37 : decode cX5_castBy 37 = .ok (.istore 5, 2) := by decide +kernel
theorem dX5_castBy_39 : decode cX5_castBy 39 = .ok (.iload 4, 2) := by decide +kernel
theorem dX5_castBy_41 : decode cX5_castBy 41 = .ok (.ifCond .eq 8, 3) := by decide +kernel
theorem dX5_castBy_44 : decode cX5_castBy 44 = .ok (.iload 5, 2) := by decide +kernel
theorem dX5_castBy_46 : decode cX5_castBy 46 = .ok (.ifCond .ne 8, 3) := by decide +kernel
theorem dX5_castBy_49 : decode cX5_castBy 49 = .ok (.iload_n 1, 1) := by decide +kernel
theorem dX5_castBy_50 : decode cX5_castBy 50 = .ok (.iload_n 2, 1) := by decide +kernel
theorem dX5_castBy_51 : decode cX5_castBy 51 = .ok (.if_icmp .ne 5, 3) := by decide +kernel
theorem dX5_castBy_54 : decode cX5_castBy 54 = .ok (.lconst 0, 1) := by decide +kernel
theorem dX5_castBy_55 : decode cX5_castBy 55 = .ok (.lreturn, 1) := by decide +kernel
theorem dX5_castBy_56 : decode cX5_castBy 56 = .ok (.iload 5, 2) := by decide +kernel
theorem dX5_castBy_58 : decode cX5_castBy 58 = .ok (.ifCond .ne 13, 3) := by decide +kernel
theorem dX5_castBy_61 : decode cX5_castBy 61 = .ok (.aload_n 0, 1) := by decide +kernel
theorem dX5_castBy_62 : decode cX5_castBy 62 = .ok (.iload_n 2, 1) := by decide +kernel
theorem dX5_castBy_63 : decode cX5_castBy 63 = .ok (.iload 4, 2) := by decide +kernel
theorem dX5_castBy_65 : decode cX5_castBy 65 = .ok (.invokevirtual 99, 3) := by decide +kernel
theorem dX5_castBy_68 : decode cX5_castBy 68 = .ok (.goto 10, 3) := by decide +kernel
theorem dX5_castBy_71 : decode cX5_castBy 71 = .ok (.aload_n 0, 1) := by decide +kernel
theorem dX5_castBy_72 : decode cX5_castBy 72 = .ok (.iload_n 2, 1) := by decide +kernel
theorem dX5_castBy_73 : decode cX5_castBy 73 = .ok (.iload 5, 2) := by decide +kernel
theorem dX5_castBy_75 : decode cX5_castBy 75 = .ok (.invokevirtual 103, 3) := by decide +kernel
theorem dX5_castBy_78 : decode cX5_castBy 78 = .ok (.lstore 6, 2) := by decide +kernel
theorem dX5_castBy_80 : decode cX5_castBy 80 = .ok (.lload 6, 2) := by decide +kernel
theorem dX5_castBy_82 : decode cX5_castBy 82 = .ok (.aload_n 0, 1) := by decide +kernel
theorem dX5_castBy_83 : decode cX5_castBy 83 = .ok (.getfield 47, 3) := by decide +kernel
theorem dX5_castBy_86 : decode cX5_castBy 86 = .ok (.land, 1) := by decide +kernel
theorem dX5_castBy_87 : decode cX5_castBy 87 = .ok (.lconst 0, 1) := by decide +kernel
theorem dX5_castBy_88 : decode cX5_castBy 88 = .ok (.lcmp, 1) := by decide +kernel
theorem dX5_castBy_89 : decode cX5_castBy 89 = .ok (.ifCond .eq 5, 3) := by decide +kernel
theorem dX5_castBy_92 : decode cX5_castBy 92 = .ok (.lconst 0, 1) := by decide +kernel
theorem dX5_castBy_93 : decode cX5_castBy 93 = .ok (.lreturn, 1) := by decide +kernel
theorem dX5_castBy_94 : decode cX5_castBy 94 = .ok (.iload 5, 2) := by decide +kernel
theorem dX5_castBy_96 : decode cX5_castBy 96 = .ok (.ifCond .ne 25, 3) := by decide +kernel
theorem dX5_castBy_99 : decode cX5_castBy 99 = .ok (.aload_n 0, 1) := by decide +kernel
theorem dX5_castBy_100 : decode cX5_castBy 100 = .ok (.iload_n 2, 1) := by decide +kernel
theorem dX5_castBy_101 : decode cX5_castBy 101 = .ok (.iload 4, 2) := by decide +kernel
theorem dX5_castBy_103 : decode cX5_castBy 103 = .ok (.ifCond .ge 7, 3) := by decide +kernel
theorem dX5_castBy_106 : decode cX5_castBy 106 = .ok (.iload_n 3, 1) := by decide +kernel
theorem dX5_castBy_107 : decode cX5_castBy 107 = .ok (.goto 5, 3) := by decide +kernel
theorem dX5_castBy_110 : decode cX5_castBy 110 = .ok (.iload_n 3, 1) := by decide +kernel
theorem dX5_castBy_111 : decode cX5_castBy 111 = .ok (.ineg, 1) := by decide +kernel
theorem dX5_castBy_112 : decode cX5_castBy 112 = .ok (.invokevirtual 99, 3) := by decide +kernel
theorem dX5_castBy_115 : decode cX5_castBy 115 = .ok (.aload_n 0, 1) := by decide +kernel
theorem dX5_castBy_116 : decode cX5_castBy 116 = .ok (.getfield 70, 3) := by decide +kernel
theorem dX5_castBy_119 : decode cX5_castBy 119 = .ok (.land, 1) := by decide +kernel
theorem dX5_castBy_120 : decode cX5_castBy 120 = .ok (.lreturn, 1) := by decide +kernel
theorem dX5_castBy_121 : decode cX5_castBy 121 = .ok (.aload_n 0, 1) := by decide +kernel
theorem dX5_castBy_122 : decode cX5_castBy 122 = .ok (.iload_n 2, 1) := by decide +kernel
theorem dX5_castBy_123 : decode cX5_castBy 123 = .ok (.iload 5, 2) := by decide +kernel
theorem dX5_castBy_125 : decode cX5_castBy 125 = .ok (.ifCond .ge 7, 3) := by decide +kernel
theorem dX5_castBy_128 : decode cX5_castBy 128 = .ok (.iload_n 3, 1) := by decide +kernel
theorem dX5_castBy_129 : decode cX5_castBy 129 = .ok (.goto 5, 3) := by decide +kernel
theorem dX5_castBy_132 : decode cX5_castBy 132 = .ok (.iload_n 3, 1) := by decide +kernel
theorem dX5_castBy_133 : decode cX5_castBy 133 = .ok (.ineg, 1) := by decide +kernel
theorem dX5_castBy_134 : decode cX5_castBy 134 = .ok (.invokevirtual 103, 3) := by decide +kernel
theorem dX5_castBy_137 : decode cX5_castBy 137 = .ok (.aload_n 0, 1) := by decide +kernel
theorem dX5_castBy_138 : decode cX5_castBy 138 = .ok (.getfield 70, 3) := by decide +kernel
theorem dX5_castBy_141 : decode cX5_castBy 141 = .ok (.land, 1) := by decide +kernel
theorem dX5_castBy_142 : decode cX5_castBy 142 = .ok (.lreturn, 1) := by decide +kernel
theorem dX5_shadowBy_0 : decode cX5_shadowBy 0 = .ok (.aload_n 0, 1) := by decide +kernel
theorem dX5_shadowBy_1 : decode cX5_shadowBy 1 = .ok (.aload_n 0, 1) := by decide +kernel
theorem dX5_shadowBy_2 : decode cX5_shadowBy 2 = .ok (.getfield 14, 3) := by decide +kernel
theorem dX5_shadowBy_5 : decode cX5_shadowBy 5 = .ok (.getfield 76, 3) := by decide +kernel
theorem dX5_shadowBy_8 : decode cX5_shadowBy 8 = .ok (.iload_n 1, 1) := by decide +kernel
theorem dX5_shadowBy_9 : decode cX5_shadowBy 9 = .ok (.iaload, 1) := by decide +kernel
theorem dX5_shadowBy_10 : decode cX5_shadowBy 10 = .ok (.iload_n 2, 1) := by decide +kernel
theorem dX5_shadowBy_11 : decode cX5_shadowBy 11 = .ok (.invokevirtual 99, 3) := by decide +kernel
theorem dX5_shadowBy_14 : decode cX5_shadowBy 14 = .ok (.aload_n 0, 1) := by decide +kernel
theorem dX5_shadowBy_15 : decode cX5_shadowBy 15 = .ok (.getfield 70, 3) := by decide +kernel
theorem dX5_shadowBy_18 : decode cX5_shadowBy 18 = .ok (.land, 1) := by decide +kernel
theorem dX5_shadowBy_19 : decode cX5_shadowBy 19 = .ok (.lstore 4, 2) := by decide +kernel
theorem dX5_shadowBy_21 : decode cX5_shadowBy 21 = .ok (.iconst 0, 1) := by decide +kernel
theorem dX5_shadowBy_22 : decode cX5_shadowBy 22 = .ok (.istore 6, 2) := by decide +kernel
theorem dX5_shadowBy_24 : decode cX5_shadowBy 24 = .ok (.iload 6, 2) := by decide +kernel
theorem dX5_shadowBy_26 : decode cX5_shadowBy 26 = .ok (.aload_n 0, 1) := by decide +kernel
theorem dX5_shadowBy_27 : decode cX5_shadowBy 27 = .ok (.getfield 20, 3) := by decide +kernel
theorem dX5_shadowBy_30 : decode cX5_shadowBy 30 = .ok (.getfield 51, 3) := by decide +kernel
theorem dX5_shadowBy_33 : decode cX5_shadowBy 33 = .ok (.if_icmp .ge 34, 3) := by decide +kernel
theorem dX5_shadowBy_36 : decode cX5_shadowBy 36 = .ok (.iload_n 3, 1) := by decide +kernel
theorem dX5_shadowBy_37 : decode cX5_shadowBy 37 = .ok (.iload 6, 2) := by decide +kernel
theorem dX5_shadowBy_39 : decode cX5_shadowBy 39 = .ok (.invokestatic 106, 3) := by decide +kernel
theorem dX5_shadowBy_42 : decode cX5_shadowBy 42 = .ok (.ifCond .eq 19, 3) := by decide +kernel
theorem dX5_shadowBy_45 : decode cX5_shadowBy 45 = .ok (.lload 4, 2) := by decide +kernel
theorem dX5_shadowBy_47 : decode cX5_shadowBy 47 = .ok (.aload_n 0, 1) := by decide +kernel
theorem dX5_shadowBy_48 : decode cX5_shadowBy 48 = .ok (.getfield 33, 3) := by decide +kernel
theorem dX5_shadowBy_51 : decode cX5_shadowBy 51 = .ok (.iload_n 1, 1) := by decide +kernel
theorem dX5_shadowBy_52 : decode cX5_shadowBy 52 = .ok (.iconst 4, 1) := by decide +kernel
theorem dX5_shadowBy_53 : decode cX5_shadowBy 53 = .ok (.imul, 1) := by decide +kernel
theorem dX5_shadowBy_54 : decode cX5_shadowBy 54 = .ok (.iload 6, 2) := by decide +kernel
theorem dX5_shadowBy_56 : decode cX5_shadowBy 56 = .ok (.iadd, 1) := by decide +kernel
theorem dX5_shadowBy_57 : decode cX5_shadowBy 57 = .ok (.laload, 1) := by decide +kernel
theorem dX5_shadowBy_58 : decode cX5_shadowBy 58 = .ok (.lor, 1) := by decide +kernel
theorem dX5_shadowBy_59 : decode cX5_shadowBy 59 = .ok (.lstore 4, 2) := by decide +kernel
theorem dX5_shadowBy_61 : decode cX5_shadowBy 61 = .ok (.iinc 6 1, 3) := by decide +kernel
theorem dX5_shadowBy_64 : decode cX5_shadowBy 64 = .ok (.goto (-40), 3) := by decide +kernel
theorem dX5_shadowBy_67 : decode cX5_shadowBy 67 = .ok (.lload 4, 2) := by decide +kernel
theorem dX5_shadowBy_69 : decode cX5_shadowBy 69 = .ok (.lreturn, 1) := by decide +kernel
theorem dX5_spread_0 : decode cX5_spread 0 = .ok (.aload_n 0, 1) := by decide +kernel
theorem dX5_spread_1 : decode cX5_spread 1 = .ok (.getfield 73, 3) := by decide +kernel
theorem dX5_spread_4 : decode cX5_spread 4 = .ok (.aload_n 0, 1) := by decide +kernel
theorem dX5_spread_5 : decode cX5_spread 5 = .ok (.getfield 59, 3) := by decide +kernel
theorem dX5_spread_8 : decode cX5_spread 8 = .ok (.iconst 1, 1) := by decide +kernel
theorem dX5_spread_9 : decode cX5_spread 9 = .ok (.isub, 1) := by decide +kernel
theorem dX5_spread_10 : decode cX5_spread 10 = .ok (.lshl, 1) := by decide +kernel
theorem dX5_spread_11 : decode cX5_spread 11 = .ok (.lstore_n 3, 1) := by decide +kernel
theorem dX5_spread_12 : decode cX5_spread 12 = .ok (.lload_n 1, 1) := by decide +kernel
theorem dX5_spread_13 : decode cX5_spread 13 = .ok (.aload_n 0, 1) := by decide +kernel
theorem dX5_spread_14 : decode cX5_spread 14 = .ok (.getfield 73, 3) := by decide +kernel
theorem dX5_spread_17 : decode cX5_spread 17 = .ok (.ldc2_w 68, 3) := by decide +kernel
theorem dX5_spread_20 : decode cX5_spread 20 = .ok (.lxor, 1) := by decide +kernel
theorem dX5_spread_21 : decode cX5_spread 21 = .ok (.land, 1) := by decide +kernel
theorem dX5_spread_22 : decode cX5_spread 22 = .ok (.iconst 1, 1) := by decide +kernel
theorem dX5_spread_23 : decode cX5_spread 23 = .ok (.lushr, 1) := by decide +kernel
theorem dX5_spread_24 : decode cX5_spread 24 = .ok (.lload_n 1, 1) := by decide +kernel
theorem dX5_spread_25 : decode cX5_spread 25 = .ok (.lload_n 3, 1) := by decide +kernel
theorem dX5_spread_26 : decode cX5_spread 26 = .ok (.ldc2_w 68, 3) := by decide +kernel
theorem dX5_spread_29 : decode cX5_spread 29 = .ok (.lxor, 1) := by decide +kernel
theorem dX5_spread_30 : decode cX5_spread 30 = .ok (.land, 1) := by decide +kernel
theorem dX5_spread_31 : decode cX5_spread 31 = .ok (.iconst 1, 1) := by decide +kernel
theorem dX5_spread_32 : decode cX5_spread 32 = .ok (.lshl, 1) := by decide +kernel
theorem dX5_spread_33 : decode cX5_spread 33 = .ok (.lor, 1) := by decide +kernel
theorem dX5_spread_34 : decode cX5_spread 34 = .ok (.lstore 5, 2) := by decide +kernel
theorem dX5_spread_36 : decode cX5_spread 36 = .ok (.lload_n 1, 1) := by decide +kernel
theorem dX5_spread_37 : decode cX5_spread 37 = .ok (.lload 5, 2) := by decide +kernel
theorem dX5_spread_39 : decode cX5_spread 39 = .ok (.lor, 1) := by decide +kernel
theorem dX5_spread_40 : decode cX5_spread 40 = .ok (.lload_n 1, 1) := by decide +kernel
theorem dX5_spread_41 : decode cX5_spread 41 = .ok (.aload_n 0, 1) := by decide +kernel
theorem dX5_spread_42 : decode cX5_spread 42 = .ok (.getfield 59, 3) := by decide +kernel
theorem dX5_spread_45 : decode cX5_spread 45 = .ok (.lushr, 1) := by decide +kernel
theorem dX5_spread_46 : decode cX5_spread 46 = .ok (.lor, 1) := by decide +kernel
theorem dX5_spread_47 : decode cX5_spread 47 = .ok (.lload_n 1, 1) := by decide +kernel
theorem dX5_spread_48 : decode cX5_spread 48 = .ok (.aload_n 0, 1) := by decide +kernel
theorem dX5_spread_49 : decode cX5_spread 49 = .ok (.getfield 59, 3) := by decide +kernel
theorem dX5_spread_52 : decode cX5_spread 52 = .ok (.lshl, 1) := by decide +kernel
theorem dX5_spread_53 : decode cX5_spread 53 = .ok (.lor, 1) := by decide +kernel
theorem dX5_spread_54 : decode cX5_spread 54 = .ok (.aload_n 0, 1) := by decide +kernel
theorem dX5_spread_55 : decode cX5_spread 55 = .ok (.getfield 70, 3) := by decide +kernel
theorem dX5_spread_58 : decode cX5_spread 58 = .ok (.land, 1) := by decide +kernel
theorem dX5_spread_59 : decode cX5_spread 59 = .ok (.lreturn, 1) := by decide +kernel
theorem dX6_init_0 : decode cX6_init 0 = .ok (.aload_n 0, 1) := by decide +kernel
theorem dX6_init_1 : decode cX6_init 1 = .ok (.invokespecial 3, 3) := by decide +kernel
theorem dX6_init_4 : decode cX6_init 4 = .ok (.aload_n 0, 1) := by decide +kernel
theorem dX6_init_5 : decode cX6_init 5 = .ok (.aload_n 1, 1) := by decide +kernel
theorem dX6_init_6 : decode cX6_init 6 = .ok (.putfield 9, 3) := by decide +kernel
theorem dX6_init_9 : decode cX6_init 9 = .ok (.aload_n 0, 1) := by decide +kernel
theorem dX6_init_10 : decode cX6_init 10 = .ok (.new 15, 3) := by decide +kernel
theorem dX6_init_13 : decode cX6_init 13 = .ok (.dup, 1) := by decide +kernel
theorem dX6_init_14 : decode cX6_init 14 = .ok (.aload_n 1, 1) := by decide +kernel
theorem dX6_init_15 : decode cX6_init 15 = .ok (.aload_n 2, 1) := by decide +kernel
theorem dX6_init_16 : decode cX6_init 16 = .ok (.getfield 17, 3) := by decide +kernel
theorem dX6_init_19 : decode cX6_init 19 = .ok (.invokespecial 23, 3) := by decide +kernel
theorem dX6_init_22 : decode cX6_init 22 = .ok (.putfield 26, 3) := by decide +kernel
theorem dX6_init_25 : decode cX6_init 25 = .ok (.aload_n 0, 1) := by decide +kernel
theorem dX6_init_26 : decode cX6_init 26 = .ok (.aload_n 2, 1) := by decide +kernel
theorem dX6_init_27 : decode cX6_init 27 = .ok (.putfield 30, 3) := by decide +kernel
theorem dX6_init_30 : decode cX6_init 30 = .ok (.aload_n 0, 1) := by decide +kernel
theorem dX6_init_31 : decode cX6_init 31 = .ok (.iconst (-1), 1) := by decide +kernel
theorem dX6_init_32 : decode cX6_init 32 = .ok (.putfield 34, 3) := by decide +kernel
theorem dX6_init_35 : decode cX6_init 35 = .ok (.return_, 1) := by decide +kernel
theorem dX6_readInto_0 : decode cX6_readInto 0 = .ok (.aload_n 0, 1) := by decide +kernel
theorem dX6_readInto_1 : decode cX6_readInto 1 = .ok (.aload_n 1, 1) := by decide +kernel
theorem dX6_readInto_2 : decode cX6_readInto 2 = .ok (.putfield 30, 3) := by decide +kernel
theorem dX6_readInto_5 : decode cX6_readInto 5 = .ok (.aload_n 0, 1) := by decide +kernel
theorem dX6_readInto_6 : decode cX6_readInto 6 = .ok (.getfield 30, 3) := by decide +kernel
theorem dX6_readInto_9 : decode cX6_readInto 9 = .ok (.invokevirtual 38, 3) := by decide +kernel
theorem dX6_readInto_12 : decode cX6_readInto 12 = .ok (.aload_n 0, 1) := by decide +kernel
theorem dX6_readInto_13 : decode cX6_readInto 13 = .ok (.iconst 0, 1) := by decide +kernel
theorem dX6_readInto_14 : decode cX6_readInto 14 = .ok (.putfield 41, 3) := by decide +kernel
theorem dX6_readInto_17 : decode cX6_readInto 17 = .ok (.aload_n 0, 1) := by decide +kernel
theorem dX6_readInto_18 : decode cX6_readInto 18 = .ok (.iconst 0, 1) := by decide +kernel
theorem dX6_readInto_19 : decode cX6_readInto 19 = .ok (.putfield 45, 3) := by decide +kernel
theorem dX6_readInto_22 : decode cX6_readInto 22 = .ok (.aload_n 0, 1) := by decide +kernel
theorem dX6_readInto_23 : decode cX6_readInto 23 = .ok (.iconst 0, 1) := by decide +kernel
theorem dX6_readInto_24 : decode cX6_readInto 24 = .ok (.putfield 48, 3) := by decide +kernel
theorem dX6_readInto_27 : decode cX6_readInto 27 = .ok (.aload_n 0, 1) := by decide +kernel
theorem dX6_readInto_28 : decode cX6_readInto 28 = .ok (.iconst (-1), 1) := by decide +kernel
theorem dX6_readInto_29 : decode cX6_readInto 29 = .ok (.putfield 34, 3) := by decide +kernel
theorem dX6_readInto_32 : decode cX6_readInto 32 = .ok (.aload_n 0, 1) := by decide +kernel
theorem dX6_readInto_33 : decode cX6_readInto 33 = .ok (.getfield 9, 3) := by decide +kernel
theorem dX6_readInto_36 : decode cX6_readInto 36 = .ok (.iload_n 2, 1) := by decide +kernel
theorem dX6_readInto_37 : decode cX6_readInto 37 = .ok (.invokevirtual 51, 3) := by decide +kernel
theorem dX6_readInto_40 : decode cX6_readInto 40 = .ok (.iconst 1, 1) := by decide +kernel
theorem dX6_readInto_41 : decode cX6_readInto 41 = .ok (.istore_n 3, 1) := by decide +kernel
theorem dX6_readInto_42 : decode cX6_readInto 42 = .ok (.iconst 0, 1) := by decide +kernel
theorem dX6_readInto_43 : decode cX6_readInto 43 = .ok (.istore 4, 2) := by decide +kernel
theorem dX6_readInto_45 : decode cX6_readInto 45 = .ok (.iload 4, 2) := by decide +kernel
theorem dX6_readInto_47 : decode cX6_readInto 47 = .ok (.iload_n 2, 1) := by decide +kernel
theorem dX6_readInto_48 : decode cX6_readInto 48 = .ok (.if_icmp .gt 175, 3) := by decide +kernel
theorem dX6_readInto_51 : decode cX6_readInto 51 = .ok (.iload_n 3, 1) := by decide +kernel
theorem dX6_readInto_52 : decode cX6_readInto 52 = .ok (.ifCond .eq 171, 3) := by decide +kernel
theorem dX6_readInto_55 : decode cX6_readInto 55 = .ok (.aload_n 0, 1) := by decide +kernel
theorem dX6_readInto_56 : decode cX6_readInto 56 = .ok (.getfield 9, 3) := by decide +kernel
theorem dX6_readInto_59 : decode cX6_readInto 59 = .ok (.getfield 57, 3) := by decide +kernel
theorem dX6_readInto_62 : decode cX6_readInto 62 = .ok (.bipush 22, 2) := by decide +kernel
theorem dX6_readInto_64 : decode cX6_readInto 64 = .ok (.if_icmp .eq 159, 3) := by decide +kernel
theorem dX6_readInto_67 : decode cX6_readInto 67 = .ok (.aload_n 0, 1) := by decide +kernel
theorem dX6_readInto_68 : decode cX6_readInto 68 = .ok (.getfield 9, 3) := by decide +kernel
theorem dX6_readInto_71 : decode cX6_readInto 71 = .ok (.getfield 57, 3) := by decide +kernel
theorem dX6_readInto_74 : decode cX6_readInto 74 = .ok (.istore 5, 2) := by decide +kernel
theorem dX6_readInto_76 : decode cX6_readInto 76 = .ok (.aload_n 0, 1) := by decide +kernel
theorem dX6_readInto_77 : decode cX6_readInto 77 = .ok (.iload 5, 2) := by decide +kernel
theorem dX6_readInto_79 : decode cX6_readInto 79 = .ok (.iload 4, 2) := by decide +kernel
theorem dX6_readInto_81 : decode cX6_readInto 81 = .ok (.invokevirtual 60, 3) := by decide +kernel
theorem dX6_readInto_84 : decode cX6_readInto 84 = .ok (.ifCond .ne 9, 3) := by decide +kernel
theorem dX6_readInto_87 : decode cX6_readInto 87 = .ok (.aload_n 0, 1) := by decide +kernel
theorem dX6_readInto_88 : decode cX6_readInto 88 = .ok (.iconst 2, 1) := by decide +kernel
theorem dX6_readInto_89 : decode cX6_readInto 89 = .ok (.invokevirtual 64, 3) := by decide +kernel
theorem dX6_readInto_92 : decode cX6_readInto 92 = .ok (.ireturn, 1) := by decide +kernel
theorem dX6_readInto_93 : decode cX6_readInto 93 = .ok (.aload_n 0, 1) := by decide +kernel
theorem dX6_readInto_94 : decode cX6_readInto 94 = .ok (.getfield 9, 3) := by decide +kernel
theorem dX6_readInto_97 : decode cX6_readInto 97 = .ok (.invokevirtual 68, 3) := by decide +kernel
theorem dX6_readInto_100 : decode cX6_readInto 100 = .ok (.iload 5, 2) := by decide +kernel
theorem dX6_readInto_102 : decode cX6_readInto 102 = .ok (.tableswitch 110 0 11 #[62, 110, 70, 78, 110, 110, 110, 110, 86, 110, 94, 102], 62) := by decide +kernel
theorem dX6_readInto_164 : decode cX6_readInto 164 = .ok (.aload_n 0, 1) := by decide +kernel
theorem dX6_readInto_165 : decode cX6_readInto 165 = .ok (.invokevirtual 71, 3) := by decide +kernel
theorem dX6_readInto_168 : decode cX6_readInto 168 = .ok (.istore_n 3, 1) := by decide +kernel
theorem dX6_readInto_169 : decode cX6_readInto 169 = .ok (.goto 48, 3) := by decide +kernel
theorem dX6_readInto_172 : decode cX6_readInto 172 = .ok (.aload_n 0, 1) := by decide +kernel
theorem dX6_readInto_173 : decode cX6_readInto 173 = .ok (.invokevirtual 75, 3) := by decide +kernel
theorem dX6_readInto_176 : decode cX6_readInto 176 = .ok (.istore_n 3, 1) := by decide +kernel
theorem dX6_readInto_177 : decode cX6_readInto 177 = .ok (.goto 40, 3) := by decide +kernel
theorem dX6_readInto_180 : decode cX6_readInto 180 = .ok (.aload_n 0, 1) := by decide +kernel
theorem dX6_readInto_181 : decode cX6_readInto 181 = .ok (.invokevirtual 78, 3) := by decide +kernel
theorem dX6_readInto_184 : decode cX6_readInto 184 = .ok (.istore_n 3, 1) := by decide +kernel
theorem dX6_readInto_185 : decode cX6_readInto 185 = .ok (.goto 32, 3) := by decide +kernel
theorem dX6_readInto_188 : decode cX6_readInto 188 = .ok (.aload_n 0, 1) := by decide +kernel
theorem dX6_readInto_189 : decode cX6_readInto 189 = .ok (.invokevirtual 81, 3) := by decide +kernel
theorem dX6_readInto_192 : decode cX6_readInto 192 = .ok (.istore_n 3, 1) := by decide +kernel
theorem dX6_readInto_193 : decode cX6_readInto 193 = .ok (.goto 24, 3) := by decide +kernel
theorem dX6_readInto_196 : decode cX6_readInto 196 = .ok (.aload_n 0, 1) := by decide +kernel
theorem dX6_readInto_197 : decode cX6_readInto 197 = .ok (.invokevirtual 84, 3) := by decide +kernel
theorem dX6_readInto_200 : decode cX6_readInto 200 = .ok (.istore_n 3, 1) := by decide +kernel
theorem dX6_readInto_201 : decode cX6_readInto 201 = .ok (.goto 16, 3) := by decide +kernel
theorem dX6_readInto_204 : decode cX6_readInto 204 = .ok (.aload_n 0, 1) := by decide +kernel
theorem dX6_readInto_205 : decode cX6_readInto 205 = .ok (.invokevirtual 87, 3) := by decide +kernel
theorem dX6_readInto_208 : decode cX6_readInto 208 = .ok (.istore_n 3, 1) := by decide +kernel
theorem dX6_readInto_209 : decode cX6_readInto 209 = .ok (.goto 8, 3) := by decide +kernel
theorem dX6_readInto_212 : decode cX6_readInto 212 = .ok (.aload_n 0, 1) := by decide +kernel
theorem dX6_readInto_213 : decode cX6_readInto 213 = .ok (.invokevirtual 90, 3) := by decide +kernel
theorem dX6_readInto_216 : decode cX6_readInto 216 = .ok (.istore_n 3, 1) := by decide +kernel
theorem dX6_readInto_217 : decode cX6_readInto 217 = .ok (.iinc 4 1, 3) := by decide +kernel
theorem dX6_readInto_220 : decode cX6_readInto 220 = .ok (.goto (-175), 3) := by decide +kernel
theorem dX6_readInto_223 : decode cX6_readInto 223 = .ok (.iload_n 3, 1) := by decide +kernel
theorem dX6_readInto_224 : decode cX6_readInto 224 = .ok (.ifCond .eq 10, 3) := by decide +kernel
theorem dX6_readInto_227 : decode cX6_readInto 227 = .ok (.aload_n 0, 1) := by decide +kernel
theorem dX6_readInto_228 : decode cX6_readInto 228 = .ok (.getfield 30, 3) := by decide +kernel
theorem dX6_readInto_231 : decode cX6_readInto 231 = .ok (.invokevirtual 93, 3) := by decide +kernel
theorem dX6_readInto_234 : decode cX6_readInto 234 = .ok (.iload_n 3, 1) := by decide +kernel
theorem dX6_readInto_235 : decode cX6_readInto 235 = .ok (.ireturn, 1) := by decide +kernel
theorem dX6_mayBegin_0 : decode cX6_mayBegin 0 = .ok (.iload_n 1, 1) := by decide +kernel
theorem dX6_mayBegin_1 : decode cX6_mayBegin 1 = .ok (.tableswitch 162 0 12 #[67, 162, 77, 79, 162, 162, 162, 162, 98, 162, 117, 136, 149], 67) := by decide +kernel
theorem dX6_mayBegin_68 : decode cX6_mayBegin 68 = .ok (.iload_n 2, 1) := by decide +kernel
theorem dX6_mayBegin_69 : decode cX6_mayBegin 69 = .ok (.ifCond .ne 7, 3) := by decide +kernel
theorem dX6_mayBegin_72 : decode cX6_mayBegin 72 = .ok (.iconst 1, 1) := by decide +kernel
theorem dX6_mayBegin_73 : decode cX6_mayBegin 73 = .ok (.goto 4, 3) := by decide +kernel
theorem dX6_mayBegin_76 : decode cX6_mayBegin 76 = .ok (.iconst 0, 1) := by decide +kernel
theorem dX6_mayBegin_77 : decode cX6_mayBegin 77 = .ok (.ireturn, 1) := by decide +kernel
theorem dX6_mayBegin_78 : decode cX6_mayBegin 78 = .ok (.iconst 1, 1) := by decide +kernel
theorem dX6_mayBegin_79 : decode cX6_mayBegin 79 = .ok (.ireturn, 1) := by decide +kernel
theorem dX6_mayBegin_80 : decode cX6_mayBegin 80 = .ok (.aload_n 0, 1) := by decide +kernel
theorem dX6_mayBegin_81 : decode cX6_mayBegin 81 = .ok (.getfield 30, 3) := by decide +kernel
theorem dX6_mayBegin_84 : decode cX6_mayBegin 84 = .ok (.getfield 96, 3) := by decide +kernel
theorem dX6_mayBegin_87 : decode cX6_mayBegin 87 = .ok (.invokevirtual 100, 3) := by decide +kernel
theorem dX6_mayBegin_90 : decode cX6_mayBegin 90 = .ok (.ifCond .ne 7, 3) := by decide +kernel
theorem dX6_mayBegin_93 : decode cX6_mayBegin 93 = .ok (.iconst 1, 1) := by decide +kernel
theorem dX6_mayBegin_94 : decode cX6_mayBegin 94 = .ok (.goto 4, 3) := by decide +kernel
theorem dX6_mayBegin_97 : decode cX6_mayBegin 97 = .ok (.iconst 0, 1) := by decide +kernel
theorem dX6_mayBegin_98 : decode cX6_mayBegin 98 = .ok (.ireturn, 1) := by decide +kernel
theorem dX6_mayBegin_99 : decode cX6_mayBegin 99 = .ok (.aload_n 0, 1) := by decide +kernel
theorem dX6_mayBegin_100 : decode cX6_mayBegin 100 = .ok (.getfield 30, 3) := by decide +kernel
theorem dX6_mayBegin_103 : decode cX6_mayBegin 103 = .ok (.getfield 105, 3) := by decide +kernel
theorem dX6_mayBegin_106 : decode cX6_mayBegin 106 = .ok (.invokevirtual 100, 3) := by decide +kernel
theorem dX6_mayBegin_109 : decode cX6_mayBegin 109 = .ok (.ifCond .ne 7, 3) := by decide +kernel
theorem dX6_mayBegin_112 : decode cX6_mayBegin 112 = .ok (.iconst 1, 1) := by decide +kernel
theorem dX6_mayBegin_113 : decode cX6_mayBegin 113 = .ok (.goto 4, 3) := by decide +kernel
theorem dX6_mayBegin_116 : decode cX6_mayBegin 116 = .ok (.iconst 0, 1) := by decide +kernel
theorem dX6_mayBegin_117 : decode cX6_mayBegin 117 = .ok (.ireturn, 1) := by decide +kernel
theorem dX6_mayBegin_118 : decode cX6_mayBegin 118 = .ok (.aload_n 0, 1) := by decide +kernel
theorem dX6_mayBegin_119 : decode cX6_mayBegin 119 = .ok (.getfield 30, 3) := by decide +kernel
theorem dX6_mayBegin_122 : decode cX6_mayBegin 122 = .ok (.getfield 108, 3) := by decide +kernel
theorem dX6_mayBegin_125 : decode cX6_mayBegin 125 = .ok (.invokevirtual 100, 3) := by decide +kernel
theorem dX6_mayBegin_128 : decode cX6_mayBegin 128 = .ok (.ifCond .ne 7, 3) := by decide +kernel
theorem dX6_mayBegin_131 : decode cX6_mayBegin 131 = .ok (.iconst 1, 1) := by decide +kernel
theorem dX6_mayBegin_132 : decode cX6_mayBegin 132 = .ok (.goto 4, 3) := by decide +kernel
theorem dX6_mayBegin_135 : decode cX6_mayBegin 135 = .ok (.iconst 0, 1) := by decide +kernel
theorem dX6_mayBegin_136 : decode cX6_mayBegin 136 = .ok (.ireturn, 1) := by decide +kernel
theorem dX6_mayBegin_137 : decode cX6_mayBegin 137 = .ok (.aload_n 0, 1) := by decide +kernel
theorem dX6_mayBegin_138 : decode cX6_mayBegin 138 = .ok (.getfield 41, 3) := by decide +kernel
theorem dX6_mayBegin_141 : decode cX6_mayBegin 141 = .ok (.ifCond .ne 7, 3) := by decide +kernel
theorem dX6_mayBegin_144 : decode cX6_mayBegin 144 = .ok (.iconst 1, 1) := by decide +kernel
theorem dX6_mayBegin_145 : decode cX6_mayBegin 145 = .ok (.goto 4, 3) := by decide +kernel
theorem dX6_mayBegin_148 : decode cX6_mayBegin 148 = .ok (.iconst 0, 1) := by decide +kernel
theorem dX6_mayBegin_149 : decode cX6_mayBegin 149 = .ok (.ireturn, 1) := by decide +kernel
theorem dX6_mayBegin_150 : decode cX6_mayBegin 150 = .ok (.aload_n 0, 1) := by decide +kernel
theorem dX6_mayBegin_151 : decode cX6_mayBegin 151 = .ok (.getfield 45, 3) := by decide +kernel
theorem dX6_mayBegin_154 : decode cX6_mayBegin 154 = .ok (.ifCond .ne 7, 3) := by decide +kernel
theorem dX6_mayBegin_157 : decode cX6_mayBegin 157 = .ok (.iconst 1, 1) := by decide +kernel
theorem dX6_mayBegin_158 : decode cX6_mayBegin 158 = .ok (.goto 4, 3) := by decide +kernel
theorem dX6_mayBegin_161 : decode cX6_mayBegin 161 = .ok (.iconst 0, 1) := by decide +kernel
theorem dX6_mayBegin_162 : decode cX6_mayBegin 162 = .ok (.ireturn, 1) := by decide +kernel
theorem dX6_mayBegin_163 : decode cX6_mayBegin 163 = .ok (.iconst 0, 1) := by decide +kernel
theorem dX6_mayBegin_164 : decode cX6_mayBegin 164 = .ok (.ireturn, 1) := by decide +kernel
theorem dX6_readSize_0 : decode cX6_readSize 0 = .ok (.aload_n 0, 1) := by decide +kernel
theorem dX6_readSize_1 : decode cX6_readSize 1 = .ok (.iconst 1, 1) := by decide +kernel
theorem dX6_readSize_2 : decode cX6_readSize 2 = .ok (.bipush 8, 2) := by decide +kernel
theorem dX6_readSize_4 : decode cX6_readSize 4 = .ok (.invokevirtual 111, 3) := by decide +kernel
theorem dX6_readSize_7 : decode cX6_readSize 7 = .ok (.ifCond .ne 5, 3) := by decide +kernel
theorem dX6_readSize_10 : decode cX6_readSize 10 = .ok (.iconst 0, 1) := by decide +kernel
theorem dX6_readSize_11 : decode cX6_readSize 11 = .ok (.ireturn, 1) := by decide +kernel
theorem dX6_readSize_12 : decode cX6_readSize 12 = .ok (.aload_n 0, 1) := by decide +kernel
theorem dX6_readSize_13 : decode cX6_readSize 13 = .ok (.getfield 114, 3) := by decide +kernel
theorem dX6_readSize_16 : decode cX6_readSize 16 = .ok (.istore_n 1, 1) := by decide +kernel
theorem dX6_readSize_17 : decode cX6_readSize 17 = .ok (.aload_n 0, 1) := by decide +kernel
theorem dX6_readSize_18 : decode cX6_readSize 18 = .ok (.iconst 1, 1) := by decide +kernel
theorem dX6_readSize_19 : decode cX6_readSize 19 = .ok (.invokevirtual 117, 3) := by decide +kernel
theorem dX6_readSize_22 : decode cX6_readSize 22 = .ok (.ifCond .eq 13, 3) := by decide +kernel
theorem dX6_readSize_25 : decode cX6_readSize 25 = .ok (.aload_n 0, 1) := by decide +kernel
theorem dX6_readSize_26 : decode cX6_readSize 26 = .ok (.iconst 1, 1) := by decide +kernel
theorem dX6_readSize_27 : decode cX6_readSize 27 = .ok (.bipush 8, 2) := by decide +kernel
theorem dX6_readSize_29 : decode cX6_readSize 29 = .ok (.invokevirtual 111, 3) := by decide +kernel
theorem dX6_readSize_32 : decode cX6_readSize 32 = .ok (.ifCond .ne 5, 3) := by decide +kernel
theorem dX6_readSize_35 : decode cX6_readSize 35 = .ok (.iconst 0, 1) := by decide +kernel
theorem dX6_readSize_36 : decode cX6_readSize 36 = .ok (.ireturn, 1) := by decide +kernel
theorem dX6_readSize_37 : decode cX6_readSize 37 = .ok (.aload_n 0, 1) := by decide +kernel
theorem dX6_readSize_38 : decode cX6_readSize 38 = .ok (.getfield 30, 3) := by decide +kernel
theorem dX6_readSize_41 : decode cX6_readSize 41 = .ok (.iload_n 1, 1) := by decide +kernel
theorem dX6_readSize_42 : decode cX6_readSize 42 = .ok (.aload_n 0, 1) := by decide +kernel
theorem dX6_readSize_43 : decode cX6_readSize 43 = .ok (.getfield 114, 3) := by decide +kernel
theorem dX6_readSize_46 : decode cX6_readSize 46 = .ok (.invokevirtual 120, 3) := by decide +kernel
theorem dX6_readSize_49 : decode cX6_readSize 49 = .ok (.aload_n 0, 1) := by decide +kernel
theorem dX6_readSize_50 : decode cX6_readSize 50 = .ok (.bipush 59, 2) := by decide +kernel
theorem dX6_readSize_52 : decode cX6_readSize 52 = .ok (.invokevirtual 117, 3) := by decide +kernel
theorem dX6_readSize_55 : decode cX6_readSize 55 = .ok (.ireturn, 1) := by decide +kernel
theorem dX6_readWalls_0 : decode cX6_readWalls 0 = .ok (.iconst 0, 1) := by decide +kernel
theorem dX6_readWalls_1 : decode cX6_readWalls 1 = .ok (.istore_n 1, 1) := by decide +kernel
theorem dX6_readWalls_2 : decode cX6_readWalls 2 = .ok (.iload_n 1, 1) := by decide +kernel
theorem dX6_readWalls_3 : decode cX6_readWalls 3 = .ok (.bipush 24, 2) := by decide +kernel
theorem dX6_readWalls_5 : decode cX6_readWalls 5 = .ok (.if_icmp .gt 77, 3) := by decide +kernel
theorem dX6_readWalls_8 : decode cX6_readWalls 8 = .ok (.aload_n 0, 1) := by decide +kernel
theorem dX6_readWalls_9 : decode cX6_readWalls 9 = .ok (.getfield 30, 3) := by decide +kernel
theorem dX6_readWalls_12 : decode cX6_readWalls 12 = .ok (.getfield 124, 3) := by decide +kernel
theorem dX6_readWalls_15 : decode cX6_readWalls 15 = .ok (.invokestatic 128, 3) := by decide +kernel
theorem dX6_readWalls_18 : decode cX6_readWalls 18 = .ok (.bipush 24, 2) := by decide +kernel
theorem dX6_readWalls_20 : decode cX6_readWalls 20 = .ok (.if_icmp .lt 9, 3) := by decide +kernel
theorem dX6_readWalls_23 : decode cX6_readWalls 23 = .ok (.aload_n 0, 1) := by decide +kernel
theorem dX6_readWalls_24 : decode cX6_readWalls 24 = .ok (.iconst 2, 1) := by decide +kernel
theorem dX6_readWalls_25 : decode cX6_readWalls 25 = .ok (.invokevirtual 64, 3) := by decide +kernel
theorem dX6_readWalls_28 : decode cX6_readWalls 28 = .ok (.ireturn, 1) := by decide +kernel
theorem dX6_readWalls_29 : decode cX6_readWalls 29 = .ok (.aload_n 0, 1) := by decide +kernel
theorem dX6_readWalls_30 : decode cX6_readWalls 30 = .ok (.iconst 2, 1) := by decide +kernel
theorem dX6_readWalls_31 : decode cX6_readWalls 31 = .ok (.invokevirtual 134, 3) := by decide +kernel
theorem dX6_readWalls_34 : decode cX6_readWalls 34 = .ok (.ifCond .ne 5, 3) := by decide +kernel
theorem dX6_readWalls_37 : decode cX6_readWalls 37 = .ok (.iconst 0, 1) := by decide +kernel
theorem dX6_readWalls_38 : decode cX6_readWalls 38 = .ok (.ireturn, 1) := by decide +kernel
theorem dX6_readWalls_39 : decode cX6_readWalls 39 = .ok (.aload_n 0, 1) := by decide +kernel
theorem dX6_readWalls_40 : decode cX6_readWalls 40 = .ok (.getfield 30, 3) := by decide +kernel
theorem dX6_readWalls_43 : decode cX6_readWalls 43 = .ok (.dup, 1) := by decide +kernel
theorem dX6_readWalls_44 : decode cX6_readWalls 44 = .ok (.getfield 124, 3) := by decide +kernel
theorem dX6_readWalls_47 : decode cX6_readWalls 47 = .ok (.lconst 1, 1) := by decide +kernel
theorem dX6_readWalls_48 : decode cX6_readWalls 48 = .ok (.aload_n 0, 1) := by decide +kernel
theorem dX6_readWalls_49 : decode cX6_readWalls 49 = .ok (.getfield 137, 3) := by decide +kernel
theorem dX6_readWalls_52 : decode cX6_readWalls 52 = .ok (.lshl, 1) := by decide +kernel
theorem dX6_readWalls_53 : decode cX6_readWalls 53 = .ok (.lor, 1) := by decide +kernel
theorem dX6_readWalls_54 : decode cX6_readWalls 54 = .ok (.putfield 124, 3) := by decide +kernel
theorem dX6_readWalls_57 : decode cX6_readWalls 57 = .ok (.aload_n 0, 1) := by decide +kernel
theorem dX6_readWalls_58 : decode cX6_readWalls 58 = .ok (.getfield 9, 3) := by decide +kernel
theorem dX6_readWalls_61 : decode cX6_readWalls 61 = .ok (.getfield 57, 3) := by decide +kernel
theorem dX6_readWalls_64 : decode cX6_readWalls 64 = .ok (.bipush 21, 2) := by decide +kernel
theorem dX6_readWalls_66 : decode cX6_readWalls 66 = .ok (.if_icmp .eq 10, 3) := by decide +kernel
theorem dX6_readWalls_69 : decode cX6_readWalls 69 = .ok (.aload_n 0, 1) := by decide +kernel
theorem dX6_readWalls_70 : decode cX6_readWalls 70 = .ok (.bipush 59, 2) := by decide +kernel
theorem dX6_readWalls_72 : decode cX6_readWalls 72 = .ok (.invokevirtual 117, 3) := by decide +kernel
theorem dX6_readWalls_75 : decode cX6_readWalls 75 = .ok (.ireturn, 1) := by decide +kernel
theorem dX6_readWalls_76 : decode cX6_readWalls 76 = .ok (.iinc 1 1, 3) := by decide +kernel
theorem dX6_readWalls_79 : decode cX6_readWalls 79 = .ok (.goto (-77), 3) := by decide +kernel
theorem dX6_readWalls_82 : decode cX6_readWalls 82 = .ok (.aload_n 0, 1) := by decide +kernel
theorem dX6_readWalls_83 : decode cX6_readWalls 83 = .ok (.iconst 2, 1) := by decide +kernel
theorem dX6_readWalls_84 : decode cX6_readWalls 84 = .ok (.invokevirtual 64, 3) := by decide +kernel
theorem dX6_readWalls_87 : decode cX6_readWalls 87 = .ok (.ireturn, 1) := by decide +kernel
theorem dX6_readDoor_0 : decode cX6_readDoor 0 = .ok (.aload_n 0, 1) := by decide +kernel
theorem dX6_readDoor_1 : decode cX6_readDoor 1 = .ok (.getfield 9, 3) := by decide +kernel
theorem dX6_readDoor_4 : decode cX6_readDoor 4 = .ok (.getfield 140, 3) := by decide +kernel
theorem dX6_readDoor_7 : decode cX6_readDoor 7 = .ok (.lstore_n 1, 1) := by decide +kernel
theorem dX6_readDoor_8 : decode cX6_readDoor 8 = .ok (.aload_n 0, 1) := by decide +kernel
theorem dX6_readDoor_9 : decode cX6_readDoor 9 = .ok (.aload_n 0, 1) := by decide +kernel
theorem dX6_readDoor_10 : decode cX6_readDoor 10 = .ok (.getfield 30, 3) := by decide +kernel
theorem dX6_readDoor_13 : decode cX6_readDoor 13 = .ok (.getfield 96, 3) := by decide +kernel
theorem dX6_readDoor_16 : decode cX6_readDoor 16 = .ok (.invokevirtual 143, 3) := by decide +kernel
theorem dX6_readDoor_19 : decode cX6_readDoor 19 = .ok (.ifCond .eq 37, 3) := by decide +kernel
theorem dX6_readDoor_22 : decode cX6_readDoor 22 = .ok (.aload_n 0, 1) := by decide +kernel
theorem dX6_readDoor_23 : decode cX6_readDoor 23 = .ok (.iconst 4, 1) := by decide +kernel
theorem dX6_readDoor_24 : decode cX6_readDoor 24 = .ok (.invokevirtual 117, 3) := by decide +kernel
theorem dX6_readDoor_27 : decode cX6_readDoor 27 = .ok (.ifCond .eq 29, 3) := by decide +kernel
theorem dX6_readDoor_30 : decode cX6_readDoor 30 = .ok (.aload_n 0, 1) := by decide +kernel
theorem dX6_readDoor_31 : decode cX6_readDoor 31 = .ok (.iconst 3, 1) := by decide +kernel
theorem dX6_readDoor_32 : decode cX6_readDoor 32 = .ok (.invokevirtual 134, 3) := by decide +kernel
theorem dX6_readDoor_35 : decode cX6_readDoor 35 = .ok (.ifCond .eq 21, 3) := by decide +kernel
theorem dX6_readDoor_38 : decode cX6_readDoor 38 = .ok (.aload_n 0, 1) := by decide +kernel
theorem dX6_readDoor_39 : decode cX6_readDoor 39 = .ok (.iconst 5, 1) := by decide +kernel
theorem dX6_readDoor_40 : decode cX6_readDoor 40 = .ok (.invokevirtual 117, 3) := by decide +kernel
theorem dX6_readDoor_43 : decode cX6_readDoor 43 = .ok (.ifCond .eq 13, 3) := by decide +kernel
theorem dX6_readDoor_46 : decode cX6_readDoor 46 = .ok (.aload_n 0, 1) := by decide +kernel
theorem dX6_readDoor_47 : decode cX6_readDoor 47 = .ok (.iconst 1, 1) := by decide +kernel
theorem dX6_readDoor_48 : decode cX6_readDoor 48 = .ok (.bipush 9, 2) := by decide +kernel
theorem dX6_readDoor_50 : decode cX6_readDoor 50 = .ok (.invokevirtual 111, 3) := by decide +kernel
theorem dX6_readDoor_53 : decode cX6_readDoor 53 = .ok (.ifCond .ne 5, 3) := by decide +kernel
theorem dX6_readDoor_56 : decode cX6_readDoor 56 = .ok (.iconst 0, 1) := by decide +kernel
theorem dX6_readDoor_57 : decode cX6_readDoor 57 = .ok (.ireturn, 1) := by decide +kernel
theorem dX6_readDoor_58 : decode cX6_readDoor 58 = .ok (.aload_n 0, 1) := by decide +kernel
theorem dX6_readDoor_59 : decode cX6_readDoor 59 = .ok (.getfield 114, 3) := by decide +kernel
theorem dX6_readDoor_62 : decode cX6_readDoor 62 = .ok (.istore_n 3, 1) := by decide +kernel
theorem dX6_readDoor_63 : decode cX6_readDoor 63 = .ok (.aload_n 0, 1) := by decide +kernel
theorem dX6_readDoor_64 : decode cX6_readDoor 64 = .ok (.iconst 0, 1) := by decide +kernel
theorem dX6_readDoor_65 : decode cX6_readDoor 65 = .ok (.putfield 147, 3) := by decide +kernel
theorem dX6_readDoor_68 : decode cX6_readDoor 68 = .ok (.aload_n 0, 1) := by decide +kernel
theorem dX6_readDoor_69 : decode cX6_readDoor 69 = .ok (.bipush 24, 2) := by decide +kernel
theorem dX6_readDoor_71 : decode cX6_readDoor 71 = .ok (.putfield 114, 3) := by decide +kernel
theorem dX6_readDoor_74 : decode cX6_readDoor 74 = .ok (.aload_n 0, 1) := by decide +kernel
theorem dX6_readDoor_75 : decode cX6_readDoor 75 = .ok (.getfield 9, 3) := by decide +kernel
theorem dX6_readDoor_78 : decode cX6_readDoor 78 = .ok (.getfield 57, 3) := by decide +kernel
theorem dX6_readDoor_81 : decode cX6_readDoor 81 = .ok (.bipush 6, 2) := by decide +kernel
theorem dX6_readDoor_83 : decode cX6_readDoor 83 = .ok (.if_icmp .ne 14, 3) := by decide +kernel
theorem dX6_readDoor_86 : decode cX6_readDoor 86 = .ok (.aload_n 0, 1) := by decide +kernel
theorem dX6_readDoor_87 : decode cX6_readDoor 87 = .ok (.bipush 6, 2) := by decide +kernel
theorem dX6_readDoor_89 : decode cX6_readDoor 89 = .ok (.invokevirtual 149, 3) := by decide +kernel
theorem dX6_readDoor_92 : decode cX6_readDoor 92 = .ok (.ifCond .ne 5, 3) := by decide +kernel
theorem dX6_readDoor_95 : decode cX6_readDoor 95 = .ok (.iconst 0, 1) := by decide +kernel
theorem dX6_readDoor_96 : decode cX6_readDoor 96 = .ok (.ireturn, 1) := by decide +kernel
theorem dX6_readDoor_97 : decode cX6_readDoor 97 = .ok (.aload_n 0, 1) := by decide +kernel
theorem dX6_readDoor_98 : decode cX6_readDoor 98 = .ok (.getfield 30, 3) := by decide +kernel
theorem dX6_readDoor_101 : decode cX6_readDoor 101 = .ok (.getfield 96, 3) := by decide +kernel
theorem dX6_readDoor_104 : decode cX6_readDoor 104 = .ok (.lload_n 1, 1) := by decide +kernel
theorem dX6_readDoor_105 : decode cX6_readDoor 105 = .ok (.aload_n 0, 1) := by decide +kernel
theorem dX6_readDoor_106 : decode cX6_readDoor 106 = .ok (.getfield 137, 3) := by decide +kernel
theorem dX6_readDoor_109 : decode cX6_readDoor 109 = .ok (.iload_n 3, 1) := by decide +kernel
theorem dX6_readDoor_110 : decode cX6_readDoor 110 = .ok (.aload_n 0, 1) := by decide +kernel
theorem dX6_readDoor_111 : decode cX6_readDoor 111 = .ok (.getfield 147, 3) := by decide +kernel
theorem dX6_readDoor_114 : decode cX6_readDoor 114 = .ok (.aload_n 0, 1) := by decide +kernel
theorem dX6_readDoor_115 : decode cX6_readDoor 115 = .ok (.getfield 114, 3) := by decide +kernel
theorem dX6_readDoor_118 : decode cX6_readDoor 118 = .ok (.invokevirtual 152, 3) := by decide +kernel
theorem dX6_readDoor_121 : decode cX6_readDoor 121 = .ok (.aload_n 0, 1) := by decide +kernel
theorem dX6_readDoor_122 : decode cX6_readDoor 122 = .ok (.bipush 59, 2) := by decide +kernel
theorem dX6_readDoor_124 : decode cX6_readDoor 124 = .ok (.invokevirtual 117, 3) := by decide +kernel
theorem dX6_readDoor_127 : decode cX6_readDoor 127 = .ok (.ireturn, 1) := by decide +kernel
theorem dX6_readLamp_0 : decode cX6_readLamp 0 = .ok (.aload_n 0, 1) := by decide +kernel
theorem dX6_readLamp_1 : decode cX6_readLamp 1 = .ok (.getfield 9, 3) := by decide +kernel
theorem dX6_readLamp_4 : decode cX6_readLamp 4 = .ok (.getfield 140, 3) := by decide +kernel
theorem dX6_readLamp_7 : decode cX6_readLamp 7 = .ok (.lstore_n 1, 1) := by decide +kernel
theorem dX6_readLamp_8 : decode cX6_readLamp 8 = .ok (.aload_n 0, 1) := by decide +kernel
theorem dX6_readLamp_9 : decode cX6_readLamp 9 = .ok (.aload_n 0, 1) := by decide +kernel
theorem dX6_readLamp_10 : decode cX6_readLamp 10 = .ok (.getfield 30, 3) := by decide +kernel
theorem dX6_readLamp_13 : decode cX6_readLamp 13 = .ok (.getfield 105, 3) := by decide +kernel
theorem dX6_readLamp_16 : decode cX6_readLamp 16 = .ok (.invokevirtual 143, 3) := by decide +kernel
theorem dX6_readLamp_19 : decode cX6_readLamp 19 = .ok (.ifCond .eq 29, 3) := by decide +kernel
theorem dX6_readLamp_22 : decode cX6_readLamp 22 = .ok (.aload_n 0, 1) := by decide +kernel
theorem dX6_readLamp_23 : decode cX6_readLamp 23 = .ok (.iconst 4, 1) := by decide +kernel
theorem dX6_readLamp_24 : decode cX6_readLamp 24 = .ok (.invokevirtual 117, 3) := by decide +kernel
theorem dX6_readLamp_27 : decode cX6_readLamp 27 = .ok (.ifCond .eq 21, 3) := by decide +kernel
theorem dX6_readLamp_30 : decode cX6_readLamp 30 = .ok (.aload_n 0, 1) := by decide +kernel
theorem dX6_readLamp_31 : decode cX6_readLamp 31 = .ok (.bipush 8, 2) := by decide +kernel
theorem dX6_readLamp_33 : decode cX6_readLamp 33 = .ok (.invokevirtual 134, 3) := by decide +kernel
theorem dX6_readLamp_36 : decode cX6_readLamp 36 = .ok (.ifCond .eq 12, 3) := by decide +kernel
theorem dX6_readLamp_39 : decode cX6_readLamp 39 = .ok (.aload_n 0, 1) := by decide +kernel
theorem dX6_readLamp_40 : decode cX6_readLamp 40 = .ok (.bipush 9, 2) := by decide +kernel
theorem dX6_readLamp_42 : decode cX6_readLamp 42 = .ok (.invokevirtual 149, 3) := by decide +kernel
theorem dX6_readLamp_45 : decode cX6_readLamp 45 = .ok (.ifCond .ne 5, 3) := by decide +kernel
theorem dX6_readLamp_48 : decode cX6_readLamp 48 = .ok (.iconst 0, 1) := by decide +kernel
theorem dX6_readLamp_49 : decode cX6_readLamp 49 = .ok (.ireturn, 1) := by decide +kernel
theorem dX6_readLamp_50 : decode cX6_readLamp 50 = .ok (.aload_n 0, 1) := by decide +kernel
theorem dX6_readLamp_51 : decode cX6_readLamp 51 = .ok (.getfield 30, 3) := by decide +kernel
theorem dX6_readLamp_54 : decode cX6_readLamp 54 = .ok (.getfield 105, 3) := by decide +kernel
theorem dX6_readLamp_57 : decode cX6_readLamp 57 = .ok (.lload_n 1, 1) := by decide +kernel
theorem dX6_readLamp_58 : decode cX6_readLamp 58 = .ok (.aload_n 0, 1) := by decide +kernel
theorem dX6_readLamp_59 : decode cX6_readLamp 59 = .ok (.getfield 137, 3) := by decide +kernel
theorem dX6_readLamp_62 : decode cX6_readLamp 62 = .ok (.iconst 0, 1) := by decide +kernel
theorem dX6_readLamp_63 : decode cX6_readLamp 63 = .ok (.aload_n 0, 1) := by decide +kernel
theorem dX6_readLamp_64 : decode cX6_readLamp 64 = .ok (.getfield 147, 3) := by decide +kernel
theorem dX6_readLamp_67 : decode cX6_readLamp 67 = .ok (.aload_n 0, 1) := by decide +kernel
theorem dX6_readLamp_68 : decode cX6_readLamp 68 = .ok (.getfield 114, 3) := by decide +kernel
theorem dX6_readLamp_71 : decode cX6_readLamp 71 = .ok (.invokevirtual 152, 3) := by decide +kernel
theorem dX6_readLamp_74 : decode cX6_readLamp 74 = .ok (.aload_n 0, 1) := by decide +kernel
theorem dX6_readLamp_75 : decode cX6_readLamp 75 = .ok (.bipush 59, 2) := by decide +kernel
theorem dX6_readLamp_77 : decode cX6_readLamp 77 = .ok (.invokevirtual 117, 3) := by decide +kernel
theorem dX6_readLamp_80 : decode cX6_readLamp 80 = .ok (.ireturn, 1) := by decide +kernel
theorem dX6_readPerson_0 : decode cX6_readPerson 0 = .ok (.aload_n 0, 1) := by decide +kernel
theorem dX6_readPerson_1 : decode cX6_readPerson 1 = .ok (.getfield 9, 3) := by decide +kernel
theorem dX6_readPerson_4 : decode cX6_readPerson 4 = .ok (.getfield 140, 3) := by decide +kernel
theorem dX6_readPerson_7 : decode cX6_readPerson 7 = .ok (.lstore_n 1, 1) := by decide +kernel
theorem dX6_readPerson_8 : decode cX6_readPerson 8 = .ok (.aload_n 0, 1) := by decide +kernel
theorem dX6_readPerson_9 : decode cX6_readPerson 9 = .ok (.aload_n 0, 1) := by decide +kernel
theorem dX6_readPerson_10 : decode cX6_readPerson 10 = .ok (.getfield 30, 3) := by decide +kernel
theorem dX6_readPerson_13 : decode cX6_readPerson 13 = .ok (.getfield 108, 3) := by decide +kernel
theorem dX6_readPerson_16 : decode cX6_readPerson 16 = .ok (.invokevirtual 143, 3) := by decide +kernel
theorem dX6_readPerson_19 : decode cX6_readPerson 19 = .ok (.ifCond .eq 20, 3) := by decide +kernel
theorem dX6_readPerson_22 : decode cX6_readPerson 22 = .ok (.aload_n 0, 1) := by decide +kernel
theorem dX6_readPerson_23 : decode cX6_readPerson 23 = .ok (.iconst 4, 1) := by decide +kernel
theorem dX6_readPerson_24 : decode cX6_readPerson 24 = .ok (.invokevirtual 117, 3) := by decide +kernel
theorem dX6_readPerson_27 : decode cX6_readPerson 27 = .ok (.ifCond .eq 12, 3) := by decide +kernel
theorem dX6_readPerson_30 : decode cX6_readPerson 30 = .ok (.aload_n 0, 1) := by decide +kernel
theorem dX6_readPerson_31 : decode cX6_readPerson 31 = .ok (.bipush 10, 2) := by decide +kernel
theorem dX6_readPerson_33 : decode cX6_readPerson 33 = .ok (.invokevirtual 134, 3) := by decide +kernel
theorem dX6_readPerson_36 : decode cX6_readPerson 36 = .ok (.ifCond .ne 5, 3) := by decide +kernel
theorem dX6_readPerson_39 : decode cX6_readPerson 39 = .ok (.iconst 0, 1) := by decide +kernel
theorem dX6_readPerson_40 : decode cX6_readPerson 40 = .ok (.ireturn, 1) := by decide +kernel
theorem dX6_readPerson_41 : decode cX6_readPerson 41 = .ok (.aload_n 0, 1) := by decide +kernel
theorem dX6_readPerson_42 : decode cX6_readPerson 42 = .ok (.getfield 30, 3) := by decide +kernel
theorem dX6_readPerson_45 : decode cX6_readPerson 45 = .ok (.getfield 108, 3) := by decide +kernel
theorem dX6_readPerson_48 : decode cX6_readPerson 48 = .ok (.lload_n 1, 1) := by decide +kernel
theorem dX6_readPerson_49 : decode cX6_readPerson 49 = .ok (.aload_n 0, 1) := by decide +kernel
theorem dX6_readPerson_50 : decode cX6_readPerson 50 = .ok (.getfield 137, 3) := by decide +kernel
theorem dX6_readPerson_53 : decode cX6_readPerson 53 = .ok (.iconst 0, 1) := by decide +kernel
theorem dX6_readPerson_54 : decode cX6_readPerson 54 = .ok (.iconst 0, 1) := by decide +kernel
theorem dX6_readPerson_55 : decode cX6_readPerson 55 = .ok (.bipush 24, 2) := by decide +kernel
theorem dX6_readPerson_57 : decode cX6_readPerson 57 = .ok (.invokevirtual 152, 3) := by decide +kernel
theorem dX6_readPerson_60 : decode cX6_readPerson 60 = .ok (.aload_n 0, 1) := by decide +kernel
theorem dX6_readPerson_61 : decode cX6_readPerson 61 = .ok (.bipush 59, 2) := by decide +kernel
theorem dX6_readPerson_63 : decode cX6_readPerson 63 = .ok (.invokevirtual 117, 3) := by decide +kernel
theorem dX6_readPerson_66 : decode cX6_readPerson 66 = .ok (.ireturn, 1) := by decide +kernel
theorem dX6_readShade_0 : decode cX6_readShade 0 = .ok (.aload_n 0, 1) := by decide +kernel
theorem dX6_readShade_1 : decode cX6_readShade 1 = .ok (.iconst 1, 1) := by decide +kernel
theorem dX6_readShade_2 : decode cX6_readShade 2 = .ok (.putfield 41, 3) := by decide +kernel
theorem dX6_readShade_5 : decode cX6_readShade 5 = .ok (.aload_n 0, 1) := by decide +kernel
theorem dX6_readShade_6 : decode cX6_readShade 6 = .ok (.getfield 26, 3) := by decide +kernel
theorem dX6_readShade_9 : decode cX6_readShade 9 = .ok (.aload_n 0, 1) := by decide +kernel
theorem dX6_readShade_10 : decode cX6_readShade 10 = .ok (.getfield 30, 3) := by decide +kernel
theorem dX6_readShade_13 : decode cX6_readShade 13 = .ok (.getfield 17, 3) := by decide +kernel
theorem dX6_readShade_16 : decode cX6_readShade 16 = .ok (.invokevirtual 156, 3) := by decide +kernel
theorem dX6_readShade_19 : decode cX6_readShade 19 = .ok (.ifCond .ne 9, 3) := by decide +kernel
theorem dX6_readShade_22 : decode cX6_readShade 22 = .ok (.aload_n 0, 1) := by decide +kernel
theorem dX6_readShade_23 : decode cX6_readShade 23 = .ok (.iconst 2, 1) := by decide +kernel
theorem dX6_readShade_24 : decode cX6_readShade 24 = .ok (.invokevirtual 64, 3) := by decide +kernel
theorem dX6_readShade_27 : decode cX6_readShade 27 = .ok (.ireturn, 1) := by decide +kernel
theorem dX6_readShade_28 : decode cX6_readShade 28 = .ok (.aload_n 0, 1) := by decide +kernel
theorem dX6_readShade_29 : decode cX6_readShade 29 = .ok (.bipush 59, 2) := by decide +kernel
theorem dX6_readShade_31 : decode cX6_readShade 31 = .ok (.invokevirtual 117, 3) := by decide +kernel
theorem dX6_readShade_34 : decode cX6_readShade 34 = .ok (.ireturn, 1) := by decide +kernel
theorem dX6_readCloud_0 : decode cX6_readCloud 0 = .ok (.aload_n 0, 1) := by decide +kernel
theorem dX6_readCloud_1 : decode cX6_readCloud 1 = .ok (.iconst 1, 1) := by decide +kernel
theorem dX6_readCloud_2 : decode cX6_readCloud 2 = .ok (.putfield 45, 3) := by decide +kernel
theorem dX6_readCloud_5 : decode cX6_readCloud 5 = .ok (.aload_n 0, 1) := by decide +kernel
theorem dX6_readCloud_6 : decode cX6_readCloud 6 = .ok (.iconst 0, 1) := by decide +kernel
theorem dX6_readCloud_7 : decode cX6_readCloud 7 = .ok (.bipush 100, 2) := by decide +kernel
theorem dX6_readCloud_9 : decode cX6_readCloud 9 = .ok (.invokevirtual 111, 3) := by decide +kernel
theorem dX6_readCloud_12 : decode cX6_readCloud 12 = .ok (.ifCond .ne 5, 3) := by decide +kernel
theorem dX6_readCloud_15 : decode cX6_readCloud 15 = .ok (.iconst 0, 1) := by decide +kernel
theorem dX6_readCloud_16 : decode cX6_readCloud 16 = .ok (.ireturn, 1) := by decide +kernel
theorem dX6_readCloud_17 : decode cX6_readCloud 17 = .ok (.aload_n 0, 1) := by decide +kernel
theorem dX6_readCloud_18 : decode cX6_readCloud 18 = .ok (.getfield 30, 3) := by decide +kernel
theorem dX6_readCloud_21 : decode cX6_readCloud 21 = .ok (.aload_n 0, 1) := by decide +kernel
theorem dX6_readCloud_22 : decode cX6_readCloud 22 = .ok (.getfield 114, 3) := by decide +kernel
theorem dX6_readCloud_25 : decode cX6_readCloud 25 = .ok (.putfield 160, 3) := by decide +kernel
theorem dX6_readCloud_28 : decode cX6_readCloud 28 = .ok (.aload_n 0, 1) := by decide +kernel
theorem dX6_readCloud_29 : decode cX6_readCloud 29 = .ok (.bipush 59, 2) := by decide +kernel
theorem dX6_readCloud_31 : decode cX6_readCloud 31 = .ok (.invokevirtual 117, 3) := by decide +kernel
theorem dX6_readCloud_34 : decode cX6_readCloud 34 = .ok (.ireturn, 1) := by decide +kernel
theorem dX6_takeHours_0 : decode cX6_takeHours 0 = .ok (.aload_n 0, 1) := by decide +kernel
theorem dX6_takeHours_1 : decode cX6_takeHours 1 = .ok (.iload_n 1, 1) := by decide +kernel
theorem dX6_takeHours_2 : decode cX6_takeHours 2 = .ok (.invokevirtual 117, 3) := by decide +kernel
theorem dX6_takeHours_5 : decode cX6_takeHours 5 = .ok (.ifCond .eq 13, 3) := by decide +kernel
theorem dX6_takeHours_8 : decode cX6_takeHours 8 = .ok (.aload_n 0, 1) := by decide +kernel
theorem dX6_takeHours_9 : decode cX6_takeHours 9 = .ok (.iconst 0, 1) := by decide +kernel
theorem dX6_takeHours_10 : decode cX6_takeHours 10 = .ok (.bipush 23, 2) := by decide +kernel
theorem dX6_takeHours_12 : decode cX6_takeHours 12 = .ok (.invokevirtual 111, 3) := by decide +kernel
theorem dX6_takeHours_15 : decode cX6_takeHours 15 = .ok (.ifCond .ne 5, 3) := by decide +kernel
theorem dX6_takeHours_18 : decode cX6_takeHours 18 = .ok (.iconst 0, 1) := by decide +kernel
theorem dX6_takeHours_19 : decode cX6_takeHours 19 = .ok (.ireturn, 1) := by decide +kernel
theorem dX6_takeHours_20 : decode cX6_takeHours 20 = .ok (.aload_n 0, 1) := by decide +kernel
theorem dX6_takeHours_21 : decode cX6_takeHours 21 = .ok (.aload_n 0, 1) := by decide +kernel
theorem dX6_takeHours_22 : decode cX6_takeHours 22 = .ok (.getfield 114, 3) := by decide +kernel
theorem dX6_takeHours_25 : decode cX6_takeHours 25 = .ok (.putfield 147, 3) := by decide +kernel
theorem dX6_takeHours_28 : decode cX6_takeHours 28 = .ok (.aload_n 0, 1) := by decide +kernel
theorem dX6_takeHours_29 : decode cX6_takeHours 29 = .ok (.bipush 7, 2) := by decide +kernel
theorem dX6_takeHours_31 : decode cX6_takeHours 31 = .ok (.invokevirtual 117, 3) := by decide +kernel
theorem dX6_takeHours_34 : decode cX6_takeHours 34 = .ok (.ifCond .eq 22, 3) := by decide +kernel
theorem dX6_takeHours_37 : decode cX6_takeHours 37 = .ok (.aload_n 0, 1) := by decide +kernel
theorem dX6_takeHours_38 : decode cX6_takeHours 38 = .ok (.aload_n 0, 1) := by decide +kernel
theorem dX6_takeHours_39 : decode cX6_takeHours 39 = .ok (.getfield 147, 3) := by decide +kernel
theorem dX6_takeHours_42 : decode cX6_takeHours 42 = .ok (.iconst 1, 1) := by decide +kernel
theorem dX6_takeHours_43 : decode cX6_takeHours 43 = .ok (.iadd, 1) := by decide +kernel
theorem dX6_takeHours_44 : decode cX6_takeHours 44 = .ok (.bipush 24, 2) := by decide +kernel
theorem dX6_takeHours_46 : decode cX6_takeHours 46 = .ok (.invokevirtual 111, 3) := by decide +kernel
theorem dX6_takeHours_49 : decode cX6_takeHours 49 = .ok (.ifCond .eq 7, 3) := by decide +kernel
theorem dX6_takeHours_52 : decode cX6_takeHours 52 = .ok (.iconst 1, 1) := by decide +kernel
theorem dX6_takeHours_53 : decode cX6_takeHours 53 = .ok (.goto 4, 3) := by decide +kernel
theorem dX6_takeHours_56 : decode cX6_takeHours 56 = .ok (.iconst 0, 1) := by decide +kernel
theorem dX6_takeHours_57 : decode cX6_takeHours 57 = .ok (.ireturn, 1) := by decide +kernel
theorem dX6_takeName_0 : decode cX6_takeName 0 = .ok (.aload_n 0, 1) := by decide +kernel
theorem dX6_takeName_1 : decode cX6_takeName 1 = .ok (.getfield 9, 3) := by decide +kernel
theorem dX6_takeName_4 : decode cX6_takeName 4 = .ok (.getfield 57, 3) := by decide +kernel
theorem dX6_takeName_7 : decode cX6_takeName 7 = .ok (.bipush 20, 2) := by decide +kernel
theorem dX6_takeName_9 : decode cX6_takeName 9 = .ok (.if_icmp .eq 9, 3) := by decide +kernel
theorem dX6_takeName_12 : decode cX6_takeName 12 = .ok (.aload_n 0, 1) := by decide +kernel
theorem dX6_takeName_13 : decode cX6_takeName 13 = .ok (.iconst 2, 1) := by decide +kernel
theorem dX6_takeName_14 : decode cX6_takeName 14 = .ok (.invokevirtual 64, 3) := by decide +kernel
theorem dX6_takeName_17 : decode cX6_takeName 17 = .ok (.ireturn, 1) := by decide +kernel
theorem dX6_takeName_18 : decode cX6_takeName 18 = .ok (.aload_n 1, 1) := by decide +kernel
theorem dX6_takeName_19 : decode cX6_takeName 19 = .ok (.aload_n 0, 1) := by decide +kernel
theorem dX6_takeName_20 : decode cX6_takeName 20 = .ok (.getfield 9, 3) := by decide +kernel
theorem dX6_takeName_23 : decode cX6_takeName 23 = .ok (.getfield 140, 3) := by decide +kernel
theorem dX6_takeName_26 : decode cX6_takeName 26 = .ok (.invokevirtual 163, 3) := by decide +kernel
theorem dX6_takeName_29 : decode cX6_takeName 29 = .ok (.ifCond .eq 9, 3) := by decide +kernel
theorem dX6_takeName_32 : decode cX6_takeName 32 = .ok (.aload_n 0, 1) := by decide +kernel
theorem dX6_takeName_33 : decode cX6_takeName 33 = .ok (.iconst 3, 1) := by decide +kernel
theorem dX6_takeName_34 : decode cX6_takeName 34 = .ok (.invokevirtual 64, 3) := by decide +kernel
theorem dX6_takeName_37 : decode cX6_takeName 37 = .ok (.ireturn, 1) := by decide +kernel
theorem dX6_takeName_38 : decode cX6_takeName 38 = .ok (.aload_n 0, 1) := by decide +kernel
theorem dX6_takeName_39 : decode cX6_takeName 39 = .ok (.getfield 9, 3) := by decide +kernel
theorem dX6_takeName_42 : decode cX6_takeName 42 = .ok (.invokevirtual 68, 3) := by decide +kernel
theorem dX6_takeName_45 : decode cX6_takeName 45 = .ok (.iconst 1, 1) := by decide +kernel
theorem dX6_takeName_46 : decode cX6_takeName 46 = .ok (.ireturn, 1) := by decide +kernel
theorem dX6_takeCell_0 : decode cX6_takeCell 0 = .ok (.aload_n 0, 1) := by decide +kernel
theorem dX6_takeCell_1 : decode cX6_takeCell 1 = .ok (.iconst 0, 1) := by decide +kernel
theorem dX6_takeCell_2 : decode cX6_takeCell 2 = .ok (.aload_n 0, 1) := by decide +kernel
theorem dX6_takeCell_3 : decode cX6_takeCell 3 = .ok (.getfield 30, 3) := by decide +kernel
theorem dX6_takeCell_6 : decode cX6_takeCell 6 = .ok (.getfield 167, 3) := by decide +kernel
theorem dX6_takeCell_9 : decode cX6_takeCell 9 = .ok (.iconst 1, 1) := by decide +kernel
theorem dX6_takeCell_10 : decode cX6_takeCell 10 = .ok (.isub, 1) := by decide +kernel
theorem dX6_takeCell_11 : decode cX6_takeCell 11 = .ok (.invokevirtual 111, 3) := by decide +kernel
theorem dX6_takeCell_14 : decode cX6_takeCell 14 = .ok (.ifCond .ne 5, 3) := by decide +kernel
theorem dX6_takeCell_17 : decode cX6_takeCell 17 = .ok (.iconst 0, 1) := by decide +kernel
theorem dX6_takeCell_18 : decode cX6_takeCell 18 = .ok (.ireturn, 1) := by decide +kernel
theorem dX6_takeCell_19 : decode cX6_takeCell 19 = .ok (.aload_n 0, 1) := by decide +kernel
theorem dX6_takeCell_20 : decode cX6_takeCell 20 = .ok (.getfield 114, 3) := by decide +kernel
theorem dX6_takeCell_23 : decode cX6_takeCell 23 = .ok (.istore_n 2, 1) := by decide +kernel
theorem dX6_takeCell_24 : decode cX6_takeCell 24 = .ok (.aload_n 0, 1) := by decide +kernel
theorem dX6_takeCell_25 : decode cX6_takeCell 25 = .ok (.getfield 9, 3) := by decide +kernel
theorem dX6_takeCell_28 : decode cX6_takeCell 28 = .ok (.getfield 57, 3) := by decide +kernel
theorem dX6_takeCell_31 : decode cX6_takeCell 31 = .ok (.bipush 21, 2) := by decide +kernel
theorem dX6_takeCell_33 : decode cX6_takeCell 33 = .ok (.if_icmp .ne 55, 3) := by decide +kernel
theorem dX6_takeCell_36 : decode cX6_takeCell 36 = .ok (.aload_n 0, 1) := by decide +kernel
theorem dX6_takeCell_37 : decode cX6_takeCell 37 = .ok (.getfield 9, 3) := by decide +kernel
theorem dX6_takeCell_40 : decode cX6_takeCell 40 = .ok (.getfield 170, 3) := by decide +kernel
theorem dX6_takeCell_43 : decode cX6_takeCell 43 = .ok (.aload_n 0, 1) := by decide +kernel
theorem dX6_takeCell_44 : decode cX6_takeCell 44 = .ok (.getfield 30, 3) := by decide +kernel
theorem dX6_takeCell_47 : decode cX6_takeCell 47 = .ok (.getfield 173, 3) := by decide +kernel
theorem dX6_takeCell_50 : decode cX6_takeCell 50 = .ok (.if_icmp .ge 38, 3) := by decide +kernel
theorem dX6_takeCell_53 : decode cX6_takeCell 53 = .ok (.aload_n 0, 1) := by decide +kernel
theorem dX6_takeCell_54 : decode cX6_takeCell 54 = .ok (.aload_n 0, 1) := by decide +kernel
theorem dX6_takeCell_55 : decode cX6_takeCell 55 = .ok (.getfield 9, 3) := by decide +kernel
theorem dX6_takeCell_58 : decode cX6_takeCell 58 = .ok (.getfield 170, 3) := by decide +kernel
theorem dX6_takeCell_61 : decode cX6_takeCell 61 = .ok (.aload_n 0, 1) := by decide +kernel
theorem dX6_takeCell_62 : decode cX6_takeCell 62 = .ok (.getfield 30, 3) := by decide +kernel
theorem dX6_takeCell_65 : decode cX6_takeCell 65 = .ok (.getfield 167, 3) := by decide +kernel
theorem dX6_takeCell_68 : decode cX6_takeCell 68 = .ok (.imul, 1) := by decide +kernel
theorem dX6_takeCell_69 : decode cX6_takeCell 69 = .ok (.iload_n 2, 1) := by decide +kernel
theorem dX6_takeCell_70 : decode cX6_takeCell 70 = .ok (.iadd, 1) := by decide +kernel
theorem dX6_takeCell_71 : decode cX6_takeCell 71 = .ok (.putfield 137, 3) := by decide +kernel
theorem dX6_takeCell_74 : decode cX6_takeCell 74 = .ok (.aload_n 0, 1) := by decide +kernel
theorem dX6_takeCell_75 : decode cX6_takeCell 75 = .ok (.iload_n 1, 1) := by decide +kernel
theorem dX6_takeCell_76 : decode cX6_takeCell 76 = .ok (.invokevirtual 176, 3) := by decide +kernel
theorem dX6_takeCell_79 : decode cX6_takeCell 79 = .ok (.ifCond .eq 9, 3) := by decide +kernel
theorem dX6_takeCell_82 : decode cX6_takeCell 82 = .ok (.aload_n 0, 1) := by decide +kernel
theorem dX6_takeCell_83 : decode cX6_takeCell 83 = .ok (.iconst 3, 1) := by decide +kernel
theorem dX6_takeCell_84 : decode cX6_takeCell 84 = .ok (.invokevirtual 64, 3) := by decide +kernel
theorem dX6_takeCell_87 : decode cX6_takeCell 87 = .ok (.ireturn, 1) := by decide +kernel
theorem dX6_takeCell_88 : decode cX6_takeCell 88 = .ok (.aload_n 0, 1) := by decide +kernel
theorem dX6_takeCell_89 : decode cX6_takeCell 89 = .ok (.iconst 0, 1) := by decide +kernel
theorem dX6_takeCell_90 : decode cX6_takeCell 90 = .ok (.aload_n 0, 1) := by decide +kernel
theorem dX6_takeCell_91 : decode cX6_takeCell 91 = .ok (.getfield 30, 3) := by decide +kernel
theorem dX6_takeCell_94 : decode cX6_takeCell 94 = .ok (.getfield 173, 3) := by decide +kernel
theorem dX6_takeCell_97 : decode cX6_takeCell 97 = .ok (.iconst 1, 1) := by decide +kernel
theorem dX6_takeCell_98 : decode cX6_takeCell 98 = .ok (.isub, 1) := by decide +kernel
theorem dX6_takeCell_99 : decode cX6_takeCell 99 = .ok (.invokevirtual 111, 3) := by decide +kernel
theorem dX6_takeCell_102 : decode cX6_takeCell 102 = .ok (.ireturn, 1) := by decide +kernel
theorem dX6_isTaken_0 : decode cX6_isTaken 0 = .ok (.aload_n 0, 1) := by decide +kernel
theorem dX6_isTaken_1 : decode cX6_isTaken 1 = .ok (.getfield 30, 3) := by decide +kernel
theorem dX6_isTaken_4 : decode cX6_isTaken 4 = .ok (.getfield 124, 3) := by decide +kernel
theorem dX6_isTaken_7 : decode cX6_isTaken 7 = .ok (.aload_n 0, 1) := by decide +kernel
theorem dX6_isTaken_8 : decode cX6_isTaken 8 = .ok (.getfield 137, 3) := by decide +kernel
theorem dX6_isTaken_11 : decode cX6_isTaken 11 = .ok (.lushr, 1) := by decide +kernel
theorem dX6_isTaken_12 : decode cX6_isTaken 12 = .ok (.lconst 1, 1) := by decide +kernel
theorem dX6_isTaken_13 : decode cX6_isTaken 13 = .ok (.land, 1) := by decide +kernel
theorem dX6_isTaken_14 : decode cX6_isTaken 14 = .ok (.lconst 0, 1) := by decide +kernel
theorem dX6_isTaken_15 : decode cX6_isTaken 15 = .ok (.lcmp, 1) := by decide +kernel
theorem dX6_isTaken_16 : decode cX6_isTaken 16 = .ok (.ifCond .eq 5, 3) := by decide +kernel
theorem dX6_isTaken_19 : decode cX6_isTaken 19 = .ok (.iconst 1, 1) := by decide +kernel
theorem dX6_isTaken_20 : decode cX6_isTaken 20 = .ok (.ireturn, 1) := by decide +kernel
theorem dX6_isTaken_21 : decode cX6_isTaken 21 = .ok (.iload_n 1, 1) := by decide +kernel
theorem dX6_isTaken_22 : decode cX6_isTaken 22 = .ok (.iconst 2, 1) := by decide +kernel
theorem dX6_isTaken_23 : decode cX6_isTaken 23 = .ok (.if_icmp .ne 60, 3) := by decide +kernel
theorem dX6_isTaken_26 : decode cX6_isTaken 26 = .ok (.aload_n 0, 1) := by decide +kernel
theorem dX6_isTaken_27 : decode cX6_isTaken 27 = .ok (.getfield 30, 3) := by decide +kernel
theorem dX6_isTaken_30 : decode cX6_isTaken 30 = .ok (.getfield 96, 3) := by decide +kernel
theorem dX6_isTaken_33 : decode cX6_isTaken 33 = .ok (.aload_n 0, 1) := by decide +kernel
theorem dX6_isTaken_34 : decode cX6_isTaken 34 = .ok (.getfield 137, 3) := by decide +kernel
theorem dX6_isTaken_37 : decode cX6_isTaken 37 = .ok (.invokevirtual 179, 3) := by decide +kernel
theorem dX6_isTaken_40 : decode cX6_isTaken 40 = .ok (.ifCond .ne 37, 3) := by decide +kernel
theorem dX6_isTaken_43 : decode cX6_isTaken 43 = .ok (.aload_n 0, 1) := by decide +kernel
theorem dX6_isTaken_44 : decode cX6_isTaken 44 = .ok (.getfield 30, 3) := by decide +kernel
theorem dX6_isTaken_47 : decode cX6_isTaken 47 = .ok (.getfield 105, 3) := by decide +kernel
theorem dX6_isTaken_50 : decode cX6_isTaken 50 = .ok (.aload_n 0, 1) := by decide +kernel
theorem dX6_isTaken_51 : decode cX6_isTaken 51 = .ok (.getfield 137, 3) := by decide +kernel
theorem dX6_isTaken_54 : decode cX6_isTaken 54 = .ok (.invokevirtual 179, 3) := by decide +kernel
theorem dX6_isTaken_57 : decode cX6_isTaken 57 = .ok (.ifCond .ne 20, 3) := by decide +kernel
theorem dX6_isTaken_60 : decode cX6_isTaken 60 = .ok (.aload_n 0, 1) := by decide +kernel
theorem dX6_isTaken_61 : decode cX6_isTaken 61 = .ok (.getfield 30, 3) := by decide +kernel
theorem dX6_isTaken_64 : decode cX6_isTaken 64 = .ok (.getfield 108, 3) := by decide +kernel
theorem dX6_isTaken_67 : decode cX6_isTaken 67 = .ok (.aload_n 0, 1) := by decide +kernel
theorem dX6_isTaken_68 : decode cX6_isTaken 68 = .ok (.getfield 137, 3) := by decide +kernel
theorem dX6_isTaken_71 : decode cX6_isTaken 71 = .ok (.invokevirtual 179, 3) := by decide +kernel
theorem dX6_isTaken_74 : decode cX6_isTaken 74 = .ok (.ifCond .eq 7, 3) := by decide +kernel
theorem dX6_isTaken_77 : decode cX6_isTaken 77 = .ok (.iconst 1, 1) := by decide +kernel
theorem dX6_isTaken_78 : decode cX6_isTaken 78 = .ok (.goto 4, 3) := by decide +kernel
theorem dX6_isTaken_81 : decode cX6_isTaken 81 = .ok (.iconst 0, 1) := by decide +kernel
theorem dX6_isTaken_82 : decode cX6_isTaken 82 = .ok (.ireturn, 1) := by decide +kernel
theorem dX6_isTaken_83 : decode cX6_isTaken 83 = .ok (.iload_n 1, 1) := by decide +kernel
theorem dX6_isTaken_84 : decode cX6_isTaken 84 = .ok (.iconst 3, 1) := by decide +kernel
theorem dX6_isTaken_85 : decode cX6_isTaken 85 = .ok (.if_icmp .ne 24, 3) := by decide +kernel
theorem dX6_isTaken_88 : decode cX6_isTaken 88 = .ok (.aload_n 0, 1) := by decide +kernel
theorem dX6_isTaken_89 : decode cX6_isTaken 89 = .ok (.getfield 30, 3) := by decide +kernel
theorem dX6_isTaken_92 : decode cX6_isTaken 92 = .ok (.getfield 96, 3) := by decide +kernel
theorem dX6_isTaken_95 : decode cX6_isTaken 95 = .ok (.aload_n 0, 1) := by decide +kernel
theorem dX6_isTaken_96 : decode cX6_isTaken 96 = .ok (.getfield 137, 3) := by decide +kernel
theorem dX6_isTaken_99 : decode cX6_isTaken 99 = .ok (.invokevirtual 179, 3) := by decide +kernel
theorem dX6_isTaken_102 : decode cX6_isTaken 102 = .ok (.ifCond .eq 7, 3) := by decide +kernel
theorem dX6_isTaken_105 : decode cX6_isTaken 105 = .ok (.iconst 1, 1) := by decide +kernel
theorem dX6_isTaken_106 : decode cX6_isTaken 106 = .ok (.goto 4, 3) := by decide +kernel
theorem dX6_isTaken_109 : decode cX6_isTaken 109 = .ok (.iconst 0, 1) := by decide +kernel
theorem dX6_isTaken_110 : decode cX6_isTaken 110 = .ok (.ireturn, 1) := by decide +kernel
theorem dX6_takeNumber_0 : decode cX6_takeNumber 0 = .ok (.aload_n 0, 1) := by decide +kernel
theorem dX6_takeNumber_1 : decode cX6_takeNumber 1 = .ok (.getfield 9, 3) := by decide +kernel
theorem dX6_takeNumber_4 : decode cX6_takeNumber 4 = .ok (.getfield 57, 3) := by decide +kernel
theorem dX6_takeNumber_7 : decode cX6_takeNumber 7 = .ok (.bipush 21, 2) := by decide +kernel
theorem dX6_takeNumber_9 : decode cX6_takeNumber 9 = .ok (.if_icmp .eq 9, 3) := by decide +kernel
theorem dX6_takeNumber_12 : decode cX6_takeNumber 12 = .ok (.aload_n 0, 1) := by decide +kernel
theorem dX6_takeNumber_13 : decode cX6_takeNumber 13 = .ok (.iconst 2, 1) := by decide +kernel
theorem dX6_takeNumber_14 : decode cX6_takeNumber 14 = .ok (.invokevirtual 64, 3) := by decide +kernel
theorem dX6_takeNumber_17 : decode cX6_takeNumber 17 = .ok (.ireturn, 1) := by decide +kernel
theorem dX6_takeNumber_18 : decode cX6_takeNumber 18 = .ok (.aload_n 0, 1) := by decide +kernel
theorem dX6_takeNumber_19 : decode cX6_takeNumber 19 = .ok (.getfield 9, 3) := by decide +kernel
theorem dX6_takeNumber_22 : decode cX6_takeNumber 22 = .ok (.getfield 170, 3) := by decide +kernel
theorem dX6_takeNumber_25 : decode cX6_takeNumber 25 = .ok (.iload_n 1, 1) := by decide +kernel
theorem dX6_takeNumber_26 : decode cX6_takeNumber 26 = .ok (.if_icmp .lt 14, 3) := by decide +kernel
theorem dX6_takeNumber_29 : decode cX6_takeNumber 29 = .ok (.aload_n 0, 1) := by decide +kernel
theorem dX6_takeNumber_30 : decode cX6_takeNumber 30 = .ok (.getfield 9, 3) := by decide +kernel
theorem dX6_takeNumber_33 : decode cX6_takeNumber 33 = .ok (.getfield 170, 3) := by decide +kernel
theorem dX6_takeNumber_36 : decode cX6_takeNumber 36 = .ok (.iload_n 2, 1) := by decide +kernel
theorem dX6_takeNumber_37 : decode cX6_takeNumber 37 = .ok (.if_icmp .le 9, 3) := by decide +kernel
theorem dX6_takeNumber_40 : decode cX6_takeNumber 40 = .ok (.aload_n 0, 1) := by decide +kernel
theorem dX6_takeNumber_41 : decode cX6_takeNumber 41 = .ok (.iconst 4, 1) := by decide +kernel
theorem dX6_takeNumber_42 : decode cX6_takeNumber 42 = .ok (.invokevirtual 64, 3) := by decide +kernel
theorem dX6_takeNumber_45 : decode cX6_takeNumber 45 = .ok (.ireturn, 1) := by decide +kernel
theorem dX6_takeNumber_46 : decode cX6_takeNumber 46 = .ok (.aload_n 0, 1) := by decide +kernel
theorem dX6_takeNumber_47 : decode cX6_takeNumber 47 = .ok (.aload_n 0, 1) := by decide +kernel
theorem dX6_takeNumber_48 : decode cX6_takeNumber 48 = .ok (.getfield 9, 3) := by decide +kernel
theorem dX6_takeNumber_51 : decode cX6_takeNumber 51 = .ok (.getfield 170, 3) := by decide +kernel
theorem dX6_takeNumber_54 : decode cX6_takeNumber 54 = .ok (.putfield 114, 3) := by decide +kernel
theorem dX6_takeNumber_57 : decode cX6_takeNumber 57 = .ok (.aload_n 0, 1) := by decide +kernel
theorem dX6_takeNumber_58 : decode cX6_takeNumber 58 = .ok (.getfield 9, 3) := by decide +kernel
theorem dX6_takeNumber_61 : decode cX6_takeNumber 61 = .ok (.invokevirtual 68, 3) := by decide +kernel
theorem dX6_takeNumber_64 : decode cX6_takeNumber 64 = .ok (.iconst 1, 1) := by decide +kernel
theorem dX6_takeNumber_65 : decode cX6_takeNumber 65 = .ok (.ireturn, 1) := by decide +kernel
theorem dX6_take_0 : decode cX6_take 0 = .ok (.aload_n 0, 1) := by decide +kernel
theorem dX6_take_1 : decode cX6_take 1 = .ok (.getfield 9, 3) := by decide +kernel
theorem dX6_take_4 : decode cX6_take 4 = .ok (.getfield 57, 3) := by decide +kernel
theorem dX6_take_7 : decode cX6_take 7 = .ok (.iload_n 1, 1) := by decide +kernel
theorem dX6_take_8 : decode cX6_take 8 = .ok (.if_icmp .eq 9, 3) := by decide +kernel
theorem dX6_take_11 : decode cX6_take 11 = .ok (.aload_n 0, 1) := by decide +kernel
theorem dX6_take_12 : decode cX6_take 12 = .ok (.iconst 2, 1) := by decide +kernel
theorem dX6_take_13 : decode cX6_take 13 = .ok (.invokevirtual 64, 3) := by decide +kernel
theorem dX6_take_16 : decode cX6_take 16 = .ok (.ireturn, 1) := by decide +kernel
theorem dX6_take_17 : decode cX6_take 17 = .ok (.aload_n 0, 1) := by decide +kernel
theorem dX6_take_18 : decode cX6_take 18 = .ok (.getfield 9, 3) := by decide +kernel
theorem dX6_take_21 : decode cX6_take 21 = .ok (.invokevirtual 68, 3) := by decide +kernel
theorem dX6_take_24 : decode cX6_take 24 = .ok (.iconst 1, 1) := by decide +kernel
theorem dX6_take_25 : decode cX6_take 25 = .ok (.ireturn, 1) := by decide +kernel
theorem dX6_refuse_0 : decode cX6_refuse 0 = .ok (.aload_n 0, 1) := by decide +kernel
theorem dX6_refuse_1 : decode cX6_refuse 1 = .ok (.aload_n 0, 1) := by decide +kernel
theorem dX6_refuse_2 : decode cX6_refuse 2 = .ok (.getfield 9, 3) := by decide +kernel
theorem dX6_refuse_5 : decode cX6_refuse 5 = .ok (.getfield 57, 3) := by decide +kernel
theorem dX6_refuse_8 : decode cX6_refuse 8 = .ok (.bipush 23, 2) := by decide +kernel
theorem dX6_refuse_10 : decode cX6_refuse 10 = .ok (.if_icmp .ne 7, 3) := by decide +kernel
theorem dX6_refuse_13 : decode cX6_refuse 13 = .ok (.iconst 1, 1) := by decide +kernel
theorem dX6_refuse_14 : decode cX6_refuse 14 = .ok (.goto 4, 3) := by decide +kernel
theorem dX6_refuse_17 : decode cX6_refuse 17 = .ok (.iload_n 1, 1) := by decide +kernel
theorem dX6_refuse_18 : decode cX6_refuse 18 = .ok (.putfield 48, 3) := by decide +kernel
theorem dX6_refuse_21 : decode cX6_refuse 21 = .ok (.aload_n 0, 1) := by decide +kernel
theorem dX6_refuse_22 : decode cX6_refuse 22 = .ok (.aload_n 0, 1) := by decide +kernel
theorem dX6_refuse_23 : decode cX6_refuse 23 = .ok (.getfield 9, 3) := by decide +kernel
theorem dX6_refuse_26 : decode cX6_refuse 26 = .ok (.getfield 182, 3) := by decide +kernel
theorem dX6_refuse_29 : decode cX6_refuse 29 = .ok (.putfield 34, 3) := by decide +kernel
theorem dX6_refuse_32 : decode cX6_refuse 32 = .ok (.iconst 0, 1) := by decide +kernel
theorem dX6_refuse_33 : decode cX6_refuse 33 = .ok (.ireturn, 1) := by decide +kernel
theorem dX7_init_0 : decode cX7_init 0 = .ok (.aload_n 0, 1) := by decide +kernel
theorem dX7_init_1 : decode cX7_init 1 = .ok (.invokespecial 3, 3) := by decide +kernel
theorem dX7_init_4 : decode cX7_init 4 = .ok (.aload_n 0, 1) := by decide +kernel
theorem dX7_init_5 : decode cX7_init 5 = .ok (.sipush 392, 3) := by decide +kernel
theorem dX7_init_8 : decode cX7_init 8 = .ok (.newarray .long, 2) := by decide +kernel
theorem dX7_init_10 : decode cX7_init 10 = .ok (.putfield 9, 3) := by decide +kernel
theorem dX7_init_13 : decode cX7_init 13 = .ok (.aload_n 0, 1) := by decide +kernel
theorem dX7_init_14 : decode cX7_init 14 = .ok (.bipush 49, 2) := by decide +kernel
theorem dX7_init_16 : decode cX7_init 16 = .ok (.newarray .int, 2) := by decide +kernel
theorem dX7_init_18 : decode cX7_init 18 = .ok (.putfield 15, 3) := by decide +kernel
theorem dX7_init_21 : decode cX7_init 21 = .ok (.aload_n 0, 1) := by decide +kernel
theorem dX7_init_22 : decode cX7_init 22 = .ok (.bipush 10, 2) := by decide +kernel
theorem dX7_init_24 : decode cX7_init 24 = .ok (.newarray .int, 2) := by decide +kernel
theorem dX7_init_26 : decode cX7_init 26 = .ok (.putfield 19, 3) := by decide +kernel
theorem dX7_init_29 : decode cX7_init 29 = .ok (.aload_n 0, 1) := by decide +kernel
theorem dX7_init_30 : decode cX7_init 30 = .ok (.aload_n 1, 1) := by decide +kernel
theorem dX7_init_31 : decode cX7_init 31 = .ok (.putfield 22, 3) := by decide +kernel
theorem dX7_init_34 : decode cX7_init 34 = .ok (.return_, 1) := by decide +kernel
theorem dX7_forget_0 : decode cX7_forget 0 = .ok (.aload_n 0, 1) := by decide +kernel
theorem dX7_forget_1 : decode cX7_forget 1 = .ok (.aload_n 1, 1) := by decide +kernel
theorem dX7_forget_2 : decode cX7_forget 2 = .ok (.putfield 22, 3) := by decide +kernel
theorem dX7_forget_5 : decode cX7_forget 5 = .ok (.aload_n 0, 1) := by decide +kernel
theorem dX7_forget_6 : decode cX7_forget 6 = .ok (.lconst 0, 1) := by decide +kernel
theorem dX7_forget_7 : decode cX7_forget 7 = .ok (.putfield 26, 3) := by decide +kernel
theorem dX7_forget_10 : decode cX7_forget 10 = .ok (.return_, 1) := by decide +kernel
theorem dX7_aimAt_0 : decode cX7_aimAt 0 = .ok (.aload_n 0, 1) := by decide +kernel
theorem dX7_aimAt_1 : decode cX7_aimAt 1 = .ok (.aload_n 1, 1) := by decide +kernel
theorem dX7_aimAt_2 : decode cX7_aimAt 2 = .ok (.getfield 30, 3) := by decide +kernel
theorem dX7_aimAt_5 : decode cX7_aimAt 5 = .ok (.putfield 36, 3) := by decide +kernel
theorem dX7_aimAt_8 : decode cX7_aimAt 8 = .ok (.aload_n 0, 1) := by decide +kernel
theorem dX7_aimAt_9 : decode cX7_aimAt 9 = .ok (.getfield 37, 3) := by decide +kernel
theorem dX7_aimAt_12 : decode cX7_aimAt 12 = .ok (.aload_n 1, 1) := by decide +kernel
theorem dX7_aimAt_13 : decode cX7_aimAt 13 = .ok (.getfield 40, 3) := by decide +kernel
theorem dX7_aimAt_16 : decode cX7_aimAt 16 = .ok (.if_icmp .ne 32, 3) := by decide +kernel
theorem dX7_aimAt_19 : decode cX7_aimAt 19 = .ok (.aload_n 0, 1) := by decide +kernel
theorem dX7_aimAt_20 : decode cX7_aimAt 20 = .ok (.getfield 43, 3) := by decide +kernel
theorem dX7_aimAt_23 : decode cX7_aimAt 23 = .ok (.aload_n 1, 1) := by decide +kernel
theorem dX7_aimAt_24 : decode cX7_aimAt 24 = .ok (.getfield 46, 3) := by decide +kernel
theorem dX7_aimAt_27 : decode cX7_aimAt 27 = .ok (.if_icmp .ne 21, 3) := by decide +kernel
theorem dX7_aimAt_30 : decode cX7_aimAt 30 = .ok (.aload_n 0, 1) := by decide +kernel
theorem dX7_aimAt_31 : decode cX7_aimAt 31 = .ok (.getfield 47, 3) := by decide +kernel
theorem dX7_aimAt_34 : decode cX7_aimAt 34 = .ok (.aload_n 1, 1) := by decide +kernel
theorem dX7_aimAt_35 : decode cX7_aimAt 35 = .ok (.getfield 51, 3) := by decide +kernel
theorem dX7_aimAt_38 : decode cX7_aimAt 38 = .ok (.if_icmp .ne 10, 3) := by decide +kernel
theorem dX7_aimAt_41 : decode cX7_aimAt 41 = .ok (.aload_n 0, 1) := by decide +kernel
theorem dX7_aimAt_42 : decode cX7_aimAt 42 = .ok (.getfield 54, 3) := by decide +kernel
theorem dX7_aimAt_45 : decode cX7_aimAt 45 = .ok (.ifCond .eq 8, 3) := by decide +kernel
theorem dX7_aimAt_48 : decode cX7_aimAt 48 = .ok (.aload_n 0, 1) := by decide +kernel
theorem dX7_aimAt_49 : decode cX7_aimAt 49 = .ok (.lconst 0, 1) := by decide +kernel
theorem dX7_aimAt_50 : decode cX7_aimAt 50 = .ok (.putfield 26, 3) := by decide +kernel
theorem dX7_aimAt_53 : decode cX7_aimAt 53 = .ok (.aload_n 0, 1) := by decide +kernel
theorem dX7_aimAt_54 : decode cX7_aimAt 54 = .ok (.aload_n 1, 1) := by decide +kernel
theorem dX7_aimAt_55 : decode cX7_aimAt 55 = .ok (.getfield 40, 3) := by decide +kernel
theorem dX7_aimAt_58 : decode cX7_aimAt 58 = .ok (.putfield 37, 3) := by decide +kernel
theorem dX7_aimAt_61 : decode cX7_aimAt 61 = .ok (.aload_n 0, 1) := by decide +kernel
theorem dX7_aimAt_62 : decode cX7_aimAt 62 = .ok (.aload_n 1, 1) := by decide +kernel
theorem dX7_aimAt_63 : decode cX7_aimAt 63 = .ok (.getfield 46, 3) := by decide +kernel
theorem dX7_aimAt_66 : decode cX7_aimAt 66 = .ok (.putfield 43, 3) := by decide +kernel
theorem dX7_aimAt_69 : decode cX7_aimAt 69 = .ok (.aload_n 0, 1) := by decide +kernel
theorem dX7_aimAt_70 : decode cX7_aimAt 70 = .ok (.aload_n 1, 1) := by decide +kernel
theorem dX7_aimAt_71 : decode cX7_aimAt 71 = .ok (.getfield 51, 3) := by decide +kernel
theorem dX7_aimAt_74 : decode cX7_aimAt 74 = .ok (.putfield 47, 3) := by decide +kernel
theorem dX7_aimAt_77 : decode cX7_aimAt 77 = .ok (.aload_n 0, 1) := by decide +kernel
theorem dX7_aimAt_78 : decode cX7_aimAt 78 = .ok (.iconst 0, 1) := by decide +kernel
theorem dX7_aimAt_79 : decode cX7_aimAt 79 = .ok (.putfield 54, 3) := by decide +kernel
theorem dX7_aimAt_82 : decode cX7_aimAt 82 = .ok (.return_, 1) := by decide +kernel
theorem dX7_startOn_0 : decode cX7_startOn 0 = .ok (.aload_n 0, 1) := by decide +kernel
theorem dX7_startOn_1 : decode cX7_startOn 1 = .ok (.iload_n 1, 1) := by decide +kernel
theorem dX7_startOn_2 : decode cX7_startOn 2 = .ok (.bipush 24, 2) := by decide +kernel
theorem dX7_startOn_4 : decode cX7_startOn 4 = .ok (.imul, 1) := by decide +kernel
theorem dX7_startOn_5 : decode cX7_startOn 5 = .ok (.aload_n 0, 1) := by decide +kernel
theorem dX7_startOn_6 : decode cX7_startOn 6 = .ok (.getfield 37, 3) := by decide +kernel
theorem dX7_startOn_9 : decode cX7_startOn 9 = .ok (.bipush 24, 2) := by decide +kernel
theorem dX7_startOn_11 : decode cX7_startOn 11 = .ok (.irem, 1) := by decide +kernel
theorem dX7_startOn_12 : decode cX7_startOn 12 = .ok (.iadd, 1) := by decide +kernel
theorem dX7_startOn_13 : decode cX7_startOn 13 = .ok (.putfield 37, 3) := by decide +kernel
theorem dX7_startOn_16 : decode cX7_startOn 16 = .ok (.aload_n 0, 1) := by decide +kernel
theorem dX7_startOn_17 : decode cX7_startOn 17 = .ok (.lconst 0, 1) := by decide +kernel
theorem dX7_startOn_18 : decode cX7_startOn 18 = .ok (.putfield 26, 3) := by decide +kernel
theorem dX7_startOn_21 : decode cX7_startOn 21 = .ok (.return_, 1) := by decide +kernel
theorem dX7_burn_0 : decode cX7_burn 0 = .ok (.aload_n 0, 1) := by decide +kernel
theorem dX7_burn_1 : decode cX7_burn 1 = .ok (.iload_n 1, 1) := by decide +kernel
theorem dX7_burn_2 : decode cX7_burn 2 = .ok (.putfield 54, 3) := by decide +kernel
theorem dX7_burn_5 : decode cX7_burn 5 = .ok (.aload_n 0, 1) := by decide +kernel
theorem dX7_burn_6 : decode cX7_burn 6 = .ok (.lconst 0, 1) := by decide +kernel
theorem dX7_burn_7 : decode cX7_burn 7 = .ok (.putfield 26, 3) := by decide +kernel
theorem dX7_burn_10 : decode cX7_burn 10 = .ok (.return_, 1) := by decide +kernel
theorem dX7_isDark_0 : decode cX7_isDark 0 = .ok (.aload_n 0, 1) := by decide +kernel
theorem dX7_isDark_1 : decode cX7_isDark 1 = .ok (.getfield 47, 3) := by decide +kernel
theorem dX7_isDark_4 : decode cX7_isDark 4 = .ok (.ireturn, 1) := by decide +kernel
theorem dX7_darken_0 : decode cX7_darken 0 = .ok (.aload_n 0, 1) := by decide +kernel
theorem dX7_darken_1 : decode cX7_darken 1 = .ok (.iload_n 1, 1) := by decide +kernel
theorem dX7_darken_2 : decode cX7_darken 2 = .ok (.putfield 47, 3) := by decide +kernel
theorem dX7_darken_5 : decode cX7_darken 5 = .ok (.aload_n 0, 1) := by decide +kernel
theorem dX7_darken_6 : decode cX7_darken 6 = .ok (.lconst 0, 1) := by decide +kernel
theorem dX7_darken_7 : decode cX7_darken 7 = .ok (.putfield 26, 3) := by decide +kernel
theorem dX7_darken_10 : decode cX7_darken 10 = .ok (.return_, 1) := by decide +kernel
theorem dX7_shadowOf_0 : decode cX7_shadowOf 0 = .ok (.aload_n 0, 1) := by decide +kernel
theorem dX7_shadowOf_1 : decode cX7_shadowOf 1 = .ok (.iload_n 2, 1) := by decide +kernel
theorem dX7_shadowOf_2 : decode cX7_shadowOf 2 = .ok (.invokevirtual 57, 3) := by decide +kernel
theorem dX7_shadowOf_5 : decode cX7_shadowOf 5 = .ok (.aload_n 0, 1) := by decide +kernel
theorem dX7_shadowOf_6 : decode cX7_shadowOf 6 = .ok (.getfield 9, 3) := by decide +kernel
theorem dX7_shadowOf_9 : decode cX7_shadowOf 9 = .ok (.iload_n 2, 1) := by decide +kernel
theorem dX7_shadowOf_10 : decode cX7_shadowOf 10 = .ok (.bipush 8, 2) := by decide +kernel
theorem dX7_shadowOf_12 : decode cX7_shadowOf 12 = .ok (.imul, 1) := by decide +kernel
theorem dX7_shadowOf_13 : decode cX7_shadowOf 13 = .ok (.iload_n 1, 1) := by decide +kernel
theorem dX7_shadowOf_14 : decode cX7_shadowOf 14 = .ok (.iadd, 1) := by decide +kernel
theorem dX7_shadowOf_15 : decode cX7_shadowOf 15 = .ok (.laload, 1) := by decide +kernel
theorem dX7_shadowOf_16 : decode cX7_shadowOf 16 = .ok (.lreturn, 1) := by decide +kernel
theorem dX7_openIn_0 : decode cX7_openIn 0 = .ok (.aload_n 0, 1) := by decide +kernel
theorem dX7_openIn_1 : decode cX7_openIn 1 = .ok (.iload_n 1, 1) := by decide +kernel
theorem dX7_openIn_2 : decode cX7_openIn 2 = .ok (.invokevirtual 57, 3) := by decide +kernel
theorem dX7_openIn_5 : decode cX7_openIn 5 = .ok (.aload_n 0, 1) := by decide +kernel
theorem dX7_openIn_6 : decode cX7_openIn 6 = .ok (.getfield 15, 3) := by decide +kernel
theorem dX7_openIn_9 : decode cX7_openIn 9 = .ok (.iload_n 1, 1) := by decide +kernel
theorem dX7_openIn_10 : decode cX7_openIn 10 = .ok (.iaload, 1) := by decide +kernel
theorem dX7_openIn_11 : decode cX7_openIn 11 = .ok (.aload_n 0, 1) := by decide +kernel
theorem dX7_openIn_12 : decode cX7_openIn 12 = .ok (.getfield 36, 3) := by decide +kernel
theorem dX7_openIn_15 : decode cX7_openIn 15 = .ok (.iconst (-1), 1) := by decide +kernel
theorem dX7_openIn_16 : decode cX7_openIn 16 = .ok (.ixor, 1) := by decide +kernel
theorem dX7_openIn_17 : decode cX7_openIn 17 = .ok (.iand, 1) := by decide +kernel
theorem dX7_openIn_18 : decode cX7_openIn 18 = .ok (.ireturn, 1) := by decide +kernel
theorem dX7_prepare_0 : decode cX7_prepare 0 = .ok (.aload_n 0, 1) := by decide +kernel
theorem dX7_prepare_1 : decode cX7_prepare 1 = .ok (.getfield 26, 3) := by decide +kernel
theorem dX7_prepare_4 : decode cX7_prepare 4 = .ok (.iload_n 1, 1) := by decide +kernel
theorem dX7_prepare_5 : decode cX7_prepare 5 = .ok (.lushr, 1) := by decide +kernel
theorem dX7_prepare_6 : decode cX7_prepare 6 = .ok (.lconst 1, 1) := by decide +kernel
theorem dX7_prepare_7 : decode cX7_prepare 7 = .ok (.land, 1) := by decide +kernel
theorem dX7_prepare_8 : decode cX7_prepare 8 = .ok (.lconst 0, 1) := by decide +kernel
theorem dX7_prepare_9 : decode cX7_prepare 9 = .ok (.lcmp, 1) := by decide +kernel
theorem dX7_prepare_10 : decode cX7_prepare 10 = .ok (.ifCond .eq 4, 3) := by decide +kernel
theorem dX7_prepare_13 : decode cX7_prepare 13 = .ok (.return_, 1) := by decide +kernel
theorem dX7_prepare_14 : decode cX7_prepare 14 = .ok (.aload_n 0, 1) := by decide +kernel
theorem dX7_prepare_15 : decode cX7_prepare 15 = .ok (.dup, 1) := by decide +kernel
theorem dX7_prepare_16 : decode cX7_prepare 16 = .ok (.getfield 26, 3) := by decide +kernel
theorem dX7_prepare_19 : decode cX7_prepare 19 = .ok (.lconst 1, 1) := by decide +kernel
theorem dX7_prepare_20 : decode cX7_prepare 20 = .ok (.iload_n 1, 1) := by decide +kernel
theorem dX7_prepare_21 : decode cX7_prepare 21 = .ok (.lshl, 1) := by decide +kernel
theorem dX7_prepare_22 : decode cX7_prepare 22 = .ok (.lor, 1) := by decide +kernel
theorem dX7_prepare_23 : decode cX7_prepare 23 = .ok (.putfield 26, 3) := by decide +kernel
theorem dX7_prepare_26 : decode cX7_prepare 26 = .ok (.aload_n 0, 1) := by decide +kernel
theorem dX7_prepare_27 : decode cX7_prepare 27 = .ok (.getfield 37, 3) := by decide +kernel
theorem dX7_prepare_30 : decode cX7_prepare 30 = .ok (.iload_n 1, 1) := by decide +kernel
theorem dX7_prepare_31 : decode cX7_prepare 31 = .ok (.iadd, 1) := by decide +kernel
theorem dX7_prepare_32 : decode cX7_prepare 32 = .ok (.bipush 24, 2) := by decide +kernel
theorem dX7_prepare_34 : decode cX7_prepare 34 = .ok (.irem, 1) := by decide +kernel
theorem dX7_prepare_35 : decode cX7_prepare 35 = .ok (.istore_n 2, 1) := by decide +kernel
theorem dX7_prepare_36 : decode cX7_prepare 36 = .ok (.aload_n 0, 1) := by decide +kernel
theorem dX7_prepare_37 : decode cX7_prepare 37 = .ok (.getfield 37, 3) := by decide +kernel
theorem dX7_prepare_40 : decode cX7_prepare 40 = .ok (.iload_n 1, 1) := by decide +kernel
theorem dX7_prepare_41 : decode cX7_prepare 41 = .ok (.iadd, 1) := by decide +kernel
theorem dX7_prepare_42 : decode cX7_prepare 42 = .ok (.bipush 24, 2) := by decide +kernel
theorem dX7_prepare_44 : decode cX7_prepare 44 = .ok (.idiv, 1) := by decide +kernel
theorem dX7_prepare_45 : decode cX7_prepare 45 = .ok (.istore_n 3, 1) := by decide +kernel
theorem dX7_prepare_46 : decode cX7_prepare 46 = .ok (.aload_n 0, 1) := by decide +kernel
theorem dX7_prepare_47 : decode cX7_prepare 47 = .ok (.iload_n 2, 1) := by decide +kernel
theorem dX7_prepare_48 : decode cX7_prepare 48 = .ok (.invokevirtual 61, 3) := by decide +kernel
theorem dX7_prepare_51 : decode cX7_prepare 51 = .ok (.istore 4, 2) := by decide +kernel
theorem dX7_prepare_53 : decode cX7_prepare 53 = .ok (.aload_n 0, 1) := by decide +kernel
theorem dX7_prepare_54 : decode cX7_prepare 54 = .ok (.getfield 19, 3) := by decide +kernel
theorem dX7_prepare_57 : decode cX7_prepare 57 = .ok (.ldc 65, 2) := by decide +kernel
theorem dX7_prepare_59 : decode cX7_prepare 59 = .ok (.invokestatic 66, 3) := by decide +kernel
theorem dX7_prepare_62 : decode cX7_prepare 62 = .ok (.aload_n 0, 1) := by decide +kernel
theorem dX7_prepare_63 : decode cX7_prepare 63 = .ok (.getfield 15, 3) := by decide +kernel
theorem dX7_prepare_66 : decode cX7_prepare 66 = .ok (.iload_n 1, 1) := by decide +kernel
theorem dX7_prepare_67 : decode cX7_prepare 67 = .ok (.iconst 0, 1) := by decide +kernel
theorem dX7_prepare_68 : decode cX7_prepare 68 = .ok (.iastore, 1) := by decide +kernel
theorem dX7_prepare_69 : decode cX7_prepare 69 = .ok (.aload_n 0, 1) := by decide +kernel
theorem dX7_prepare_70 : decode cX7_prepare 70 = .ok (.getfield 22, 3) := by decide +kernel
theorem dX7_prepare_73 : decode cX7_prepare 73 = .ok (.getfield 72, 3) := by decide +kernel
theorem dX7_prepare_76 : decode cX7_prepare 76 = .ok (.astore 5, 2) := by decide +kernel
theorem dX7_prepare_78 : decode cX7_prepare 78 = .ok (.iconst 0, 1) := by decide +kernel
theorem dX7_prepare_79 : decode cX7_prepare 79 = .ok (.istore 6, 2) := by decide +kernel
theorem dX7_prepare_81 : decode cX7_prepare 81 = .ok (.iload 6, 2) := by decide +kernel
theorem dX7_prepare_83 : decode cX7_prepare 83 = .ok (.aload 5, 2) := by decide +kernel
theorem dX7_prepare_85 : decode cX7_prepare 85 = .ok (.getfield 78, 3) := by decide +kernel
theorem dX7_prepare_88 : decode cX7_prepare 88 = .ok (.if_icmp .ge 120, 3) := by decide +kernel
theorem dX7_prepare_91 : decode cX7_prepare 91 = .ok (.aload 5, 2) := by decide +kernel
theorem dX7_prepare_93 : decode cX7_prepare 93 = .ok (.getfield 83, 3) := by decide +kernel
theorem dX7_prepare_96 : decode cX7_prepare 96 = .ok (.iload 6, 2) := by decide +kernel
theorem dX7_prepare_98 : decode cX7_prepare 98 = .ok (.iaload, 1) := by decide +kernel
theorem dX7_prepare_99 : decode cX7_prepare 99 = .ok (.istore 7, 2) := by decide +kernel
theorem dX7_prepare_101 : decode cX7_prepare 101 = .ok (.aload_n 0, 1) := by decide +kernel
theorem dX7_prepare_102 : decode cX7_prepare 102 = .ok (.getfield 19, 3) := by decide +kernel
theorem dX7_prepare_105 : decode cX7_prepare 105 = .ok (.iload 7, 2) := by decide +kernel
theorem dX7_prepare_107 : decode cX7_prepare 107 = .ok (.iaload, 1) := by decide +kernel
theorem dX7_prepare_108 : decode cX7_prepare 108 = .ok (.ldc 65, 2) := by decide +kernel
theorem dX7_prepare_110 : decode cX7_prepare 110 = .ok (.if_icmp .ne 38, 3) := by decide +kernel
theorem dX7_prepare_113 : decode cX7_prepare 113 = .ok (.aload_n 0, 1) := by decide +kernel
theorem dX7_prepare_114 : decode cX7_prepare 114 = .ok (.getfield 19, 3) := by decide +kernel
theorem dX7_prepare_117 : decode cX7_prepare 117 = .ok (.iload 7, 2) := by decide +kernel
theorem dX7_prepare_119 : decode cX7_prepare 119 = .ok (.aload_n 0, 1) := by decide +kernel
theorem dX7_prepare_120 : decode cX7_prepare 120 = .ok (.getfield 47, 3) := by decide +kernel
theorem dX7_prepare_123 : decode cX7_prepare 123 = .ok (.ifCond .eq 7, 3) := by decide +kernel
theorem dX7_prepare_126 : decode cX7_prepare 126 = .ok (.iconst 0, 1) := by decide +kernel
theorem dX7_prepare_127 : decode cX7_prepare 127 = .ok (.goto 20, 3) := by decide +kernel
theorem dX7_prepare_130 : decode cX7_prepare 130 = .ok (.aload_n 0, 1) := by decide +kernel
theorem dX7_prepare_131 : decode cX7_prepare 131 = .ok (.getfield 22, 3) := by decide +kernel
theorem dX7_prepare_134 : decode cX7_prepare 134 = .ok (.getfield 86, 3) := by decide +kernel
theorem dX7_prepare_137 : decode cX7_prepare 137 = .ok (.iload 7, 2) := by decide +kernel
theorem dX7_prepare_139 : decode cX7_prepare 139 = .ok (.iload_n 2, 1) := by decide +kernel
theorem dX7_prepare_140 : decode cX7_prepare 140 = .ok (.iload_n 3, 1) := by decide +kernel
theorem dX7_prepare_141 : decode cX7_prepare 141 = .ok (.invokevirtual 90, 3) := by decide +kernel
theorem dX7_prepare_144 : decode cX7_prepare 144 = .ok (.invokestatic 96, 3) := by decide +kernel
theorem dX7_prepare_147 : decode cX7_prepare 147 = .ok (.iastore, 1) := by decide +kernel
theorem dX7_prepare_148 : decode cX7_prepare 148 = .ok (.aload_n 0, 1) := by decide +kernel
theorem dX7_prepare_149 : decode cX7_prepare 149 = .ok (.getfield 9, 3) := by decide +kernel
theorem dX7_prepare_152 : decode cX7_prepare 152 = .ok (.iload_n 1, 1) := by decide +kernel
theorem dX7_prepare_153 : decode cX7_prepare 153 = .ok (.bipush 8, 2) := by decide +kernel
theorem dX7_prepare_155 : decode cX7_prepare 155 = .ok (.imul, 1) := by decide +kernel
theorem dX7_prepare_156 : decode cX7_prepare 156 = .ok (.iload 6, 2) := by decide +kernel
theorem dX7_prepare_158 : decode cX7_prepare 158 = .ok (.iadd, 1) := by decide +kernel
theorem dX7_prepare_159 : decode cX7_prepare 159 = .ok (.aload_n 0, 1) := by decide +kernel
theorem dX7_prepare_160 : decode cX7_prepare 160 = .ok (.getfield 22, 3) := by decide +kernel
theorem dX7_prepare_163 : decode cX7_prepare 163 = .ok (.iload 6, 2) := by decide +kernel
theorem dX7_prepare_165 : decode cX7_prepare 165 = .ok (.aload_n 0, 1) := by decide +kernel
theorem dX7_prepare_166 : decode cX7_prepare 166 = .ok (.getfield 19, 3) := by decide +kernel
theorem dX7_prepare_169 : decode cX7_prepare 169 = .ok (.iload 7, 2) := by decide +kernel
theorem dX7_prepare_171 : decode cX7_prepare 171 = .ok (.iaload, 1) := by decide +kernel
theorem dX7_prepare_172 : decode cX7_prepare 172 = .ok (.iload 4, 2) := by decide +kernel
theorem dX7_prepare_174 : decode cX7_prepare 174 = .ok (.invokevirtual 99, 3) := by decide +kernel
theorem dX7_prepare_177 : decode cX7_prepare 177 = .ok (.lastore, 1) := by decide +kernel
theorem dX7_prepare_178 : decode cX7_prepare 178 = .ok (.aload 5, 2) := by decide +kernel
theorem dX7_prepare_180 : decode cX7_prepare 180 = .ok (.iload 6, 2) := by decide +kernel
theorem dX7_prepare_182 : decode cX7_prepare 182 = .ok (.iload_n 2, 1) := by decide +kernel
theorem dX7_prepare_183 : decode cX7_prepare 183 = .ok (.invokevirtual 103, 3) := by decide +kernel
theorem dX7_prepare_186 : decode cX7_prepare 186 = .ok (.ifCond .eq 16, 3) := by decide +kernel
theorem dX7_prepare_189 : decode cX7_prepare 189 = .ok (.aload_n 0, 1) := by decide +kernel
theorem dX7_prepare_190 : decode cX7_prepare 190 = .ok (.getfield 15, 3) := by decide +kernel
theorem dX7_prepare_193 : decode cX7_prepare 193 = .ok (.iload_n 1, 1) := by decide +kernel
theorem dX7_prepare_194 : decode cX7_prepare 194 = .ok (.dup2, 1) := by decide +kernel
theorem dX7_prepare_195 : decode cX7_prepare 195 = .ok (.iaload, 1) := by decide +kernel
theorem dX7_prepare_196 : decode cX7_prepare 196 = .ok (.iconst 1, 1) := by decide +kernel
theorem dX7_prepare_197 : decode cX7_prepare 197 = .ok (.iload 6, 2) := by decide +kernel
theorem dX7_prepare_199 : decode cX7_prepare 199 = .ok (.ishl, 1) := by decide +kernel
theorem dX7_prepare_200 : decode cX7_prepare 200 = .ok (.ior, 1) := by decide +kernel
theorem dX7_prepare_201 : decode cX7_prepare 201 = .ok (.iastore, 1) := by decide +kernel
theorem dX7_prepare_202 : decode cX7_prepare 202 = .ok (.iinc 6 1, 3) := by decide +kernel
theorem dX7_prepare_205 : decode cX7_prepare 205 = .ok (.goto (-124), 3) := by decide +kernel
theorem dX7_prepare_208 : decode cX7_prepare 208 = .ok (.return_, 1) := by decide +kernel
theorem dX7_cut_0 : decode cX7_cut 0 = .ok (.bipush (-8), 2) := by decide +kernel
theorem dX7_cut_2 : decode cX7_cut 2 = .ok (.bipush 8, 2) := by decide +kernel
theorem dX7_cut_4 : decode cX7_cut 4 = .ok (.iload_n 0, 1) := by decide +kernel
theorem dX7_cut_5 : decode cX7_cut 5 = .ok (.invokestatic 107, 3) := by decide +kernel
theorem dX7_cut_8 : decode cX7_cut 8 = .ok (.invokestatic 113, 3) := by decide +kernel
theorem dX7_cut_11 : decode cX7_cut 11 = .ok (.ireturn, 1) := by decide +kernel
theorem dX7_litIn_0 : decode cX7_litIn 0 = .ok (.iconst 0, 1) := by decide +kernel
theorem dX7_litIn_1 : decode cX7_litIn 1 = .ok (.istore_n 2, 1) := by decide +kernel
theorem dX7_litIn_2 : decode cX7_litIn 2 = .ok (.iconst 0, 1) := by decide +kernel
theorem dX7_litIn_3 : decode cX7_litIn 3 = .ok (.istore_n 3, 1) := by decide +kernel
theorem dX7_litIn_4 : decode cX7_litIn 4 = .ok (.iload_n 3, 1) := by decide +kernel
theorem dX7_litIn_5 : decode cX7_litIn 5 = .ok (.aload_n 0, 1) := by decide +kernel
theorem dX7_litIn_6 : decode cX7_litIn 6 = .ok (.getfield 22, 3) := by decide +kernel
theorem dX7_litIn_9 : decode cX7_litIn 9 = .ok (.getfield 116, 3) := by decide +kernel
theorem dX7_litIn_12 : decode cX7_litIn 12 = .ok (.getfield 78, 3) := by decide +kernel
theorem dX7_litIn_15 : decode cX7_litIn 15 = .ok (.if_icmp .ge 30, 3) := by decide +kernel
theorem dX7_litIn_18 : decode cX7_litIn 18 = .ok (.aload_n 0, 1) := by decide +kernel
theorem dX7_litIn_19 : decode cX7_litIn 19 = .ok (.getfield 22, 3) := by decide +kernel
theorem dX7_litIn_22 : decode cX7_litIn 22 = .ok (.getfield 116, 3) := by decide +kernel
theorem dX7_litIn_25 : decode cX7_litIn 25 = .ok (.iload_n 3, 1) := by decide +kernel
theorem dX7_litIn_26 : decode cX7_litIn 26 = .ok (.iload_n 1, 1) := by decide +kernel
theorem dX7_litIn_27 : decode cX7_litIn 27 = .ok (.invokevirtual 103, 3) := by decide +kernel
theorem dX7_litIn_30 : decode cX7_litIn 30 = .ok (.ifCond .eq 9, 3) := by decide +kernel
theorem dX7_litIn_33 : decode cX7_litIn 33 = .ok (.iload_n 2, 1) := by decide +kernel
theorem dX7_litIn_34 : decode cX7_litIn 34 = .ok (.iconst 1, 1) := by decide +kernel
theorem dX7_litIn_35 : decode cX7_litIn 35 = .ok (.iload_n 3, 1) := by decide +kernel
theorem dX7_litIn_36 : decode cX7_litIn 36 = .ok (.ishl, 1) := by decide +kernel
theorem dX7_litIn_37 : decode cX7_litIn 37 = .ok (.ior, 1) := by decide +kernel
theorem dX7_litIn_38 : decode cX7_litIn 38 = .ok (.istore_n 2, 1) := by decide +kernel
theorem dX7_litIn_39 : decode cX7_litIn 39 = .ok (.iinc 3 1, 3) := by decide +kernel
theorem dX7_litIn_42 : decode cX7_litIn 42 = .ok (.goto (-38), 3) := by decide +kernel
theorem dX7_litIn_45 : decode cX7_litIn 45 = .ok (.iload_n 2, 1) := by decide +kernel
theorem dX7_litIn_46 : decode cX7_litIn 46 = .ok (.aload_n 0, 1) := by decide +kernel
theorem dX7_litIn_47 : decode cX7_litIn 47 = .ok (.getfield 43, 3) := by decide +kernel
theorem dX7_litIn_50 : decode cX7_litIn 50 = .ok (.iconst (-1), 1) := by decide +kernel
theorem dX7_litIn_51 : decode cX7_litIn 51 = .ok (.ixor, 1) := by decide +kernel
theorem dX7_litIn_52 : decode cX7_litIn 52 = .ok (.iand, 1) := by decide +kernel
theorem dX7_litIn_53 : decode cX7_litIn 53 = .ok (.aload_n 0, 1) := by decide +kernel
theorem dX7_litIn_54 : decode cX7_litIn 54 = .ok (.getfield 54, 3) := by decide +kernel
theorem dX7_litIn_57 : decode cX7_litIn 57 = .ok (.ior, 1) := by decide +kernel
theorem dX7_litIn_58 : decode cX7_litIn 58 = .ok (.ireturn, 1) := by decide +kernel
theorem dX7_stepFrom_0 : decode cX7_stepFrom 0 = .ok (.aload_n 0, 1) := by decide +kernel
theorem dX7_stepFrom_1 : decode cX7_stepFrom 1 = .ok (.iload_n 3, 1) := by decide +kernel
theorem dX7_stepFrom_2 : decode cX7_stepFrom 2 = .ok (.invokevirtual 57, 3) := by decide +kernel
theorem dX7_stepFrom_5 : decode cX7_stepFrom 5 = .ok (.aload_n 0, 1) := by decide +kernel
theorem dX7_stepFrom_6 : decode cX7_stepFrom 6 = .ok (.getfield 15, 3) := by decide +kernel
theorem dX7_stepFrom_9 : decode cX7_stepFrom 9 = .ok (.iload_n 3, 1) := by decide +kernel
theorem dX7_stepFrom_10 : decode cX7_stepFrom 10 = .ok (.iaload, 1) := by decide +kernel
theorem dX7_stepFrom_11 : decode cX7_stepFrom 11 = .ok (.aload_n 0, 1) := by decide +kernel
theorem dX7_stepFrom_12 : decode cX7_stepFrom 12 = .ok (.getfield 36, 3) := by decide +kernel
theorem dX7_stepFrom_15 : decode cX7_stepFrom 15 = .ok (.iconst (-1), 1) := by decide +kernel
theorem dX7_stepFrom_16 : decode cX7_stepFrom 16 = .ok (.ixor, 1) := by decide +kernel
theorem dX7_stepFrom_17 : decode cX7_stepFrom 17 = .ok (.iand, 1) := by decide +kernel
theorem dX7_stepFrom_18 : decode cX7_stepFrom 18 = .ok (.iload 4, 2) := by decide +kernel
theorem dX7_stepFrom_20 : decode cX7_stepFrom 20 = .ok (.iconst (-1), 1) := by decide +kernel
theorem dX7_stepFrom_21 : decode cX7_stepFrom 21 = .ok (.ixor, 1) := by decide +kernel
theorem dX7_stepFrom_22 : decode cX7_stepFrom 22 = .ok (.iand, 1) := by decide +kernel
theorem dX7_stepFrom_23 : decode cX7_stepFrom 23 = .ok (.istore 5, 2) := by decide +kernel
theorem dX7_stepFrom_25 : decode cX7_stepFrom 25 = .ok (.aload_n 0, 1) := by decide +kernel
theorem dX7_stepFrom_26 : decode cX7_stepFrom 26 = .ok (.getfield 22, 3) := by decide +kernel
theorem dX7_stepFrom_29 : decode cX7_stepFrom 29 = .ok (.lload_n 1, 1) := by decide +kernel
theorem dX7_stepFrom_30 : decode cX7_stepFrom 30 = .ok (.invokevirtual 119, 3) := by decide +kernel
theorem dX7_stepFrom_33 : decode cX7_stepFrom 33 = .ok (.lstore 6, 2) := by decide +kernel
theorem dX7_stepFrom_35 : decode cX7_stepFrom 35 = .ok (.iconst 0, 1) := by decide +kernel
theorem dX7_stepFrom_36 : decode cX7_stepFrom 36 = .ok (.istore 8, 2) := by decide +kernel
theorem dX7_stepFrom_38 : decode cX7_stepFrom 38 = .ok (.iload 8, 2) := by decide +kernel
theorem dX7_stepFrom_40 : decode cX7_stepFrom 40 = .ok (.aload_n 0, 1) := by decide +kernel
theorem dX7_stepFrom_41 : decode cX7_stepFrom 41 = .ok (.getfield 22, 3) := by decide +kernel
theorem dX7_stepFrom_44 : decode cX7_stepFrom 44 = .ok (.getfield 72, 3) := by decide +kernel
theorem dX7_stepFrom_47 : decode cX7_stepFrom 47 = .ok (.getfield 78, 3) := by decide +kernel
theorem dX7_stepFrom_50 : decode cX7_stepFrom 50 = .ok (.if_icmp .ge 97, 3) := by decide +kernel
theorem dX7_stepFrom_53 : decode cX7_stepFrom 53 = .ok (.iload 5, 2) := by decide +kernel
theorem dX7_stepFrom_55 : decode cX7_stepFrom 55 = .ok (.iload 8, 2) := by decide +kernel
theorem dX7_stepFrom_57 : decode cX7_stepFrom 57 = .ok (.invokestatic 123, 3) := by decide +kernel
theorem dX7_stepFrom_60 : decode cX7_stepFrom 60 = .ok (.ifCond .ne 6, 3) := by decide +kernel
theorem dX7_stepFrom_63 : decode cX7_stepFrom 63 = .ok (.goto 78, 3) := by decide +kernel
theorem dX7_stepFrom_66 : decode cX7_stepFrom 66 = .ok (.aload_n 0, 1) := by decide +kernel
theorem dX7_stepFrom_67 : decode cX7_stepFrom 67 = .ok (.getfield 9, 3) := by decide +kernel
theorem dX7_stepFrom_70 : decode cX7_stepFrom 70 = .ok (.iload_n 3, 1) := by decide +kernel
theorem dX7_stepFrom_71 : decode cX7_stepFrom 71 = .ok (.bipush 8, 2) := by decide +kernel
theorem dX7_stepFrom_73 : decode cX7_stepFrom 73 = .ok (.imul, 1) := by decide +kernel
theorem dX7_stepFrom_74 : decode cX7_stepFrom 74 = .ok (.iload 8, 2) := by decide +kernel
theorem dX7_stepFrom_76 : decode cX7_stepFrom 76 = .ok (.iadd, 1) := by decide +kernel
theorem dX7_stepFrom_77 : decode cX7_stepFrom 77 = .ok (.laload, 1) := by decide +kernel
theorem dX7_stepFrom_78 : decode cX7_stepFrom 78 = .ok (.lstore 9, 2) := by decide +kernel
theorem dX7_stepFrom_80 : decode cX7_stepFrom 80 = .ok (.aload_n 0, 1) := by decide +kernel
theorem dX7_stepFrom_81 : decode cX7_stepFrom 81 = .ok (.getfield 22, 3) := by decide +kernel
theorem dX7_stepFrom_84 : decode cX7_stepFrom 84 = .ok (.getfield 72, 3) := by decide +kernel
theorem dX7_stepFrom_87 : decode cX7_stepFrom 87 = .ok (.getfield 126, 3) := by decide +kernel
theorem dX7_stepFrom_90 : decode cX7_stepFrom 90 = .ok (.iload 8, 2) := by decide +kernel
theorem dX7_stepFrom_92 : decode cX7_stepFrom 92 = .ok (.iaload, 1) := by decide +kernel
theorem dX7_stepFrom_93 : decode cX7_stepFrom 93 = .ok (.istore 11, 2) := by decide +kernel
theorem dX7_stepFrom_95 : decode cX7_stepFrom 95 = .ok (.lload_n 1, 1) := by decide +kernel
theorem dX7_stepFrom_96 : decode cX7_stepFrom 96 = .ok (.lload 9, 2) := by decide +kernel
theorem dX7_stepFrom_98 : decode cX7_stepFrom 98 = .ok (.land, 1) := by decide +kernel
theorem dX7_stepFrom_99 : decode cX7_stepFrom 99 = .ok (.lconst 0, 1) := by decide +kernel
theorem dX7_stepFrom_100 : decode cX7_stepFrom 100 = .ok (.lcmp, 1) := by decide +kernel
theorem dX7_stepFrom_101 : decode cX7_stepFrom 101 = .ok (.ifCond .eq 12, 3) := by decide +kernel
theorem dX7_stepFrom_104 : decode cX7_stepFrom 104 = .ok (.lload 6, 2) := by decide +kernel
theorem dX7_stepFrom_106 : decode cX7_stepFrom 106 = .ok (.lconst 1, 1) := by decide +kernel
theorem dX7_stepFrom_107 : decode cX7_stepFrom 107 = .ok (.iload 11, 2) := by decide +kernel
theorem dX7_stepFrom_109 : decode cX7_stepFrom 109 = .ok (.lshl, 1) := by decide +kernel
theorem dX7_stepFrom_110 : decode cX7_stepFrom 110 = .ok (.lor, 1) := by decide +kernel
theorem dX7_stepFrom_111 : decode cX7_stepFrom 111 = .ok (.lstore 6, 2) := by decide +kernel
theorem dX7_stepFrom_113 : decode cX7_stepFrom 113 = .ok (.lload_n 1, 1) := by decide +kernel
theorem dX7_stepFrom_114 : decode cX7_stepFrom 114 = .ok (.iload 11, 2) := by decide +kernel
theorem dX7_stepFrom_116 : decode cX7_stepFrom 116 = .ok (.lushr, 1) := by decide +kernel
theorem dX7_stepFrom_117 : decode cX7_stepFrom 117 = .ok (.lconst 1, 1) := by decide +kernel
theorem dX7_stepFrom_118 : decode cX7_stepFrom 118 = .ok (.land, 1) := by decide +kernel
theorem dX7_stepFrom_119 : decode cX7_stepFrom 119 = .ok (.lconst 0, 1) := by decide +kernel
theorem dX7_stepFrom_120 : decode cX7_stepFrom 120 = .ok (.lcmp, 1) := by decide +kernel
theorem dX7_stepFrom_121 : decode cX7_stepFrom 121 = .ok (.ifCond .eq 20, 3) := by decide +kernel
theorem dX7_stepFrom_124 : decode cX7_stepFrom 124 = .ok (.lload 6, 2) := by decide +kernel
theorem dX7_stepFrom_126 : decode cX7_stepFrom 126 = .ok (.lload 9, 2) := by decide +kernel
theorem dX7_stepFrom_128 : decode cX7_stepFrom 128 = .ok (.aload_n 0, 1) := by decide +kernel
theorem dX7_stepFrom_129 : decode cX7_stepFrom 129 = .ok (.lload 9, 2) := by decide +kernel
theorem dX7_stepFrom_131 : decode cX7_stepFrom 131 = .ok (.iload_n 3, 1) := by decide +kernel
theorem dX7_stepFrom_132 : decode cX7_stepFrom 132 = .ok (.iload 5, 2) := by decide +kernel
theorem dX7_stepFrom_134 : decode cX7_stepFrom 134 = .ok (.invokevirtual 129, 3) := by decide +kernel
theorem dX7_stepFrom_137 : decode cX7_stepFrom 137 = .ok (.lor, 1) := by decide +kernel
theorem dX7_stepFrom_138 : decode cX7_stepFrom 138 = .ok (.lor, 1) := by decide +kernel
theorem dX7_stepFrom_139 : decode cX7_stepFrom 139 = .ok (.lstore 6, 2) := by decide +kernel
theorem dX7_stepFrom_141 : decode cX7_stepFrom 141 = .ok (.iinc 8 1, 3) := by decide +kernel
theorem dX7_stepFrom_144 : decode cX7_stepFrom 144 = .ok (.goto (-106), 3) := by decide +kernel
theorem dX7_stepFrom_147 : decode cX7_stepFrom 147 = .ok (.lload 6, 2) := by decide +kernel
theorem dX7_stepFrom_149 : decode cX7_stepFrom 149 = .ok (.lreturn, 1) := by decide +kernel
theorem dX7_crossed_0 : decode cX7_crossed 0 = .ok (.lconst 0, 1) := by decide +kernel
theorem dX7_crossed_1 : decode cX7_crossed 1 = .ok (.lstore 5, 2) := by decide +kernel
theorem dX7_crossed_3 : decode cX7_crossed 3 = .ok (.iconst 0, 1) := by decide +kernel
theorem dX7_crossed_4 : decode cX7_crossed 4 = .ok (.istore 7, 2) := by decide +kernel
theorem dX7_crossed_6 : decode cX7_crossed 6 = .ok (.iload 7, 2) := by decide +kernel
theorem dX7_crossed_8 : decode cX7_crossed 8 = .ok (.aload_n 0, 1) := by decide +kernel
theorem dX7_crossed_9 : decode cX7_crossed 9 = .ok (.getfield 22, 3) := by decide +kernel
theorem dX7_crossed_12 : decode cX7_crossed 12 = .ok (.getfield 72, 3) := by decide +kernel
theorem dX7_crossed_15 : decode cX7_crossed 15 = .ok (.getfield 78, 3) := by decide +kernel
theorem dX7_crossed_18 : decode cX7_crossed 18 = .ok (.if_icmp .ge 58, 3) := by decide +kernel
theorem dX7_crossed_21 : decode cX7_crossed 21 = .ok (.iload 4, 2) := by decide +kernel
theorem dX7_crossed_23 : decode cX7_crossed 23 = .ok (.iload 7, 2) := by decide +kernel
theorem dX7_crossed_25 : decode cX7_crossed 25 = .ok (.invokestatic 123, 3) := by decide +kernel
theorem dX7_crossed_28 : decode cX7_crossed 28 = .ok (.ifCond .eq 42, 3) := by decide +kernel
theorem dX7_crossed_31 : decode cX7_crossed 31 = .ok (.lload_n 1, 1) := by decide +kernel
theorem dX7_crossed_32 : decode cX7_crossed 32 = .ok (.aload_n 0, 1) := by decide +kernel
theorem dX7_crossed_33 : decode cX7_crossed 33 = .ok (.getfield 9, 3) := by decide +kernel
theorem dX7_crossed_36 : decode cX7_crossed 36 = .ok (.iload_n 3, 1) := by decide +kernel
theorem dX7_crossed_37 : decode cX7_crossed 37 = .ok (.bipush 8, 2) := by decide +kernel
theorem dX7_crossed_39 : decode cX7_crossed 39 = .ok (.imul, 1) := by decide +kernel
theorem dX7_crossed_40 : decode cX7_crossed 40 = .ok (.iload 7, 2) := by decide +kernel
theorem dX7_crossed_42 : decode cX7_crossed 42 = .ok (.iadd, 1) := by decide +kernel
theorem dX7_crossed_43 : decode cX7_crossed 43 = .ok (.laload, 1) := by decide +kernel
theorem dX7_crossed_44 : decode cX7_crossed 44 = .ok (.land, 1) := by decide +kernel
theorem dX7_crossed_45 : decode cX7_crossed 45 = .ok (.lconst 0, 1) := by decide +kernel
theorem dX7_crossed_46 : decode cX7_crossed 46 = .ok (.lcmp, 1) := by decide +kernel
theorem dX7_crossed_47 : decode cX7_crossed 47 = .ok (.ifCond .eq 23, 3) := by decide +kernel
theorem dX7_crossed_50 : decode cX7_crossed 50 = .ok (.lload 5, 2) := by decide +kernel
theorem dX7_crossed_52 : decode cX7_crossed 52 = .ok (.lconst 1, 1) := by decide +kernel
theorem dX7_crossed_53 : decode cX7_crossed 53 = .ok (.aload_n 0, 1) := by decide +kernel
theorem dX7_crossed_54 : decode cX7_crossed 54 = .ok (.getfield 22, 3) := by decide +kernel
theorem dX7_crossed_57 : decode cX7_crossed 57 = .ok (.getfield 72, 3) := by decide +kernel
theorem dX7_crossed_60 : decode cX7_crossed 60 = .ok (.getfield 126, 3) := by decide +kernel
theorem dX7_crossed_63 : decode cX7_crossed 63 = .ok (.iload 7, 2) := by decide +kernel
theorem dX7_crossed_65 : decode cX7_crossed 65 = .ok (.iaload, 1) := by decide +kernel
theorem dX7_crossed_66 : decode cX7_crossed 66 = .ok (.lshl, 1) := by decide +kernel
theorem dX7_crossed_67 : decode cX7_crossed 67 = .ok (.lor, 1) := by decide +kernel
theorem dX7_crossed_68 : decode cX7_crossed 68 = .ok (.lstore 5, 2) := by decide +kernel
theorem dX7_crossed_70 : decode cX7_crossed 70 = .ok (.iinc 7 1, 3) := by decide +kernel
theorem dX7_crossed_73 : decode cX7_crossed 73 = .ok (.goto (-67), 3) := by decide +kernel
theorem dX7_crossed_76 : decode cX7_crossed 76 = .ok (.lload 5, 2) := by decide +kernel
theorem dX7_crossed_78 : decode cX7_crossed 78 = .ok (.lreturn, 1) := by decide +kernel
theorem dX8_init_0 : decode cX8_init 0 = .ok (.aload_n 0, 1) := by decide +kernel
theorem dX8_init_1 : decode cX8_init 1 = .ok (.invokespecial 1, 3) := by decide +kernel
theorem dX8_init_4 : decode cX8_init 4 = .ok (.aload_n 0, 1) := by decide +kernel
theorem dX8_init_5 : decode cX8_init 5 = .ok (.iload_n 1, 1) := by decide +kernel
theorem dX8_init_6 : decode cX8_init 6 = .ok (.newarray .long, 2) := by decide +kernel
theorem dX8_init_8 : decode cX8_init 8 = .ok (.putfield 7, 3) := by decide +kernel
theorem dX8_init_11 : decode cX8_init 11 = .ok (.aload_n 0, 1) := by decide +kernel
theorem dX8_init_12 : decode cX8_init 12 = .ok (.iload_n 1, 1) := by decide +kernel
theorem dX8_init_13 : decode cX8_init 13 = .ok (.newarray .int, 2) := by decide +kernel
theorem dX8_init_15 : decode cX8_init 15 = .ok (.putfield 13, 3) := by decide +kernel
theorem dX8_init_18 : decode cX8_init 18 = .ok (.aload_n 0, 1) := by decide +kernel
theorem dX8_init_19 : decode cX8_init 19 = .ok (.iload_n 1, 1) := by decide +kernel
theorem dX8_init_20 : decode cX8_init 20 = .ok (.newarray .int, 2) := by decide +kernel
theorem dX8_init_22 : decode cX8_init 22 = .ok (.putfield 17, 3) := by decide +kernel
theorem dX8_init_25 : decode cX8_init 25 = .ok (.aload_n 0, 1) := by decide +kernel
theorem dX8_init_26 : decode cX8_init 26 = .ok (.iload_n 1, 1) := by decide +kernel
theorem dX8_init_27 : decode cX8_init 27 = .ok (.newarray .int, 2) := by decide +kernel
theorem dX8_init_29 : decode cX8_init 29 = .ok (.putfield 20, 3) := by decide +kernel
theorem dX8_init_32 : decode cX8_init 32 = .ok (.aload_n 0, 1) := by decide +kernel
theorem dX8_init_33 : decode cX8_init 33 = .ok (.iload_n 1, 1) := by decide +kernel
theorem dX8_init_34 : decode cX8_init 34 = .ok (.newarray .int, 2) := by decide +kernel
theorem dX8_init_36 : decode cX8_init 36 = .ok (.putfield 23, 3) := by decide +kernel
theorem dX8_init_39 : decode cX8_init 39 = .ok (.return_, 1) := by decide +kernel
theorem dX8_has_0 : decode cX8_has 0 = .ok (.iload_n 1, 1) := by decide +kernel
theorem dX8_has_1 : decode cX8_has 1 = .ok (.ifCond .lt 15, 3) := by decide +kernel
theorem dX8_has_4 : decode cX8_has 4 = .ok (.iload_n 1, 1) := by decide +kernel
theorem dX8_has_5 : decode cX8_has 5 = .ok (.aload_n 0, 1) := by decide +kernel
theorem dX8_has_6 : decode cX8_has 6 = .ok (.getfield 26, 3) := by decide +kernel
theorem dX8_has_9 : decode cX8_has 9 = .ok (.if_icmp .ge 7, 3) := by decide +kernel
theorem dX8_has_12 : decode cX8_has 12 = .ok (.iconst 1, 1) := by decide +kernel
theorem dX8_has_13 : decode cX8_has 13 = .ok (.goto 4, 3) := by decide +kernel
theorem dX8_has_16 : decode cX8_has 16 = .ok (.iconst 0, 1) := by decide +kernel
theorem dX8_has_17 : decode cX8_has 17 = .ok (.ireturn, 1) := by decide +kernel
theorem dX8_isFull_0 : decode cX8_isFull 0 = .ok (.aload_n 0, 1) := by decide +kernel
theorem dX8_isFull_1 : decode cX8_isFull 1 = .ok (.getfield 26, 3) := by decide +kernel
theorem dX8_isFull_4 : decode cX8_isFull 4 = .ok (.aload_n 0, 1) := by decide +kernel
theorem dX8_isFull_5 : decode cX8_isFull 5 = .ok (.getfield 7, 3) := by decide +kernel
theorem dX8_isFull_8 : decode cX8_isFull 8 = .ok (.arraylength, 1) := by decide +kernel
theorem dX8_isFull_9 : decode cX8_isFull 9 = .ok (.if_icmp .lt 7, 3) := by decide +kernel
theorem dX8_isFull_12 : decode cX8_isFull 12 = .ok (.iconst 1, 1) := by decide +kernel
theorem dX8_isFull_13 : decode cX8_isFull 13 = .ok (.goto 4, 3) := by decide +kernel
theorem dX8_isFull_16 : decode cX8_isFull 16 = .ok (.iconst 0, 1) := by decide +kernel
theorem dX8_isFull_17 : decode cX8_isFull 17 = .ok (.ireturn, 1) := by decide +kernel
theorem dX8_isNamed_0 : decode cX8_isNamed 0 = .ok (.iconst 0, 1) := by decide +kernel
theorem dX8_isNamed_1 : decode cX8_isNamed 1 = .ok (.istore_n 3, 1) := by decide +kernel
theorem dX8_isNamed_2 : decode cX8_isNamed 2 = .ok (.iload_n 3, 1) := by decide +kernel
theorem dX8_isNamed_3 : decode cX8_isNamed 3 = .ok (.aload_n 0, 1) := by decide +kernel
theorem dX8_isNamed_4 : decode cX8_isNamed 4 = .ok (.getfield 26, 3) := by decide +kernel
theorem dX8_isNamed_7 : decode cX8_isNamed 7 = .ok (.if_icmp .ge 22, 3) := by decide +kernel
theorem dX8_isNamed_10 : decode cX8_isNamed 10 = .ok (.aload_n 0, 1) := by decide +kernel
theorem dX8_isNamed_11 : decode cX8_isNamed 11 = .ok (.getfield 7, 3) := by decide +kernel
theorem dX8_isNamed_14 : decode cX8_isNamed 14 = .ok (.iload_n 3, 1) := by decide +kernel
theorem dX8_isNamed_15 : decode cX8_isNamed 15 = .ok (.laload, 1) := by decide +kernel
theorem dX8_isNamed_16 : decode cX8_isNamed 16 = .ok (.lload_n 1, 1) := by decide +kernel
theorem dX8_isNamed_17 : decode cX8_isNamed 17 = .ok (.lcmp, 1) := by decide +kernel
theorem dX8_isNamed_18 : decode cX8_isNamed 18 = .ok (.ifCond .ne 5, 3) := by decide +kernel
theorem dX8_isNamed_21 : decode cX8_isNamed 21 = .ok (.iconst 1, 1) := by decide +kernel
theorem dX8_isNamed_22 : decode cX8_isNamed 22 = .ok (.ireturn, 1) := by decide +kernel
theorem dX8_isNamed_23 : decode cX8_isNamed 23 = .ok (.iinc 3 1, 3) := by decide +kernel
theorem dX8_isNamed_26 : decode cX8_isNamed 26 = .ok (.goto (-24), 3) := by decide +kernel
theorem dX8_isNamed_29 : decode cX8_isNamed 29 = .ok (.iconst 0, 1) := by decide +kernel
theorem dX8_isNamed_30 : decode cX8_isNamed 30 = .ok (.ireturn, 1) := by decide +kernel
theorem dX8_standAt_0 : decode cX8_standAt 0 = .ok (.iconst 0, 1) := by decide +kernel
theorem dX8_standAt_1 : decode cX8_standAt 1 = .ok (.istore_n 2, 1) := by decide +kernel
theorem dX8_standAt_2 : decode cX8_standAt 2 = .ok (.iload_n 2, 1) := by decide +kernel
theorem dX8_standAt_3 : decode cX8_standAt 3 = .ok (.aload_n 0, 1) := by decide +kernel
theorem dX8_standAt_4 : decode cX8_standAt 4 = .ok (.getfield 26, 3) := by decide +kernel
theorem dX8_standAt_7 : decode cX8_standAt 7 = .ok (.if_icmp .ge 21, 3) := by decide +kernel
theorem dX8_standAt_10 : decode cX8_standAt 10 = .ok (.aload_n 0, 1) := by decide +kernel
theorem dX8_standAt_11 : decode cX8_standAt 11 = .ok (.getfield 13, 3) := by decide +kernel
theorem dX8_standAt_14 : decode cX8_standAt 14 = .ok (.iload_n 2, 1) := by decide +kernel
theorem dX8_standAt_15 : decode cX8_standAt 15 = .ok (.iaload, 1) := by decide +kernel
theorem dX8_standAt_16 : decode cX8_standAt 16 = .ok (.iload_n 1, 1) := by decide +kernel
theorem dX8_standAt_17 : decode cX8_standAt 17 = .ok (.if_icmp .ne 5, 3) := by decide +kernel
theorem dX8_standAt_20 : decode cX8_standAt 20 = .ok (.iconst 1, 1) := by decide +kernel
theorem dX8_standAt_21 : decode cX8_standAt 21 = .ok (.ireturn, 1) := by decide +kernel
theorem dX8_standAt_22 : decode cX8_standAt 22 = .ok (.iinc 2 1, 3) := by decide +kernel
theorem dX8_standAt_25 : decode cX8_standAt 25 = .ok (.goto (-23), 3) := by decide +kernel
theorem dX8_standAt_28 : decode cX8_standAt 28 = .ok (.iconst 0, 1) := by decide +kernel
theorem dX8_standAt_29 : decode cX8_standAt 29 = .ok (.ireturn, 1) := by decide +kernel
theorem dX8_isInHours_0 : decode cX8_isInHours 0 = .ok (.iload_n 2, 1) := by decide +kernel
theorem dX8_isInHours_1 : decode cX8_isInHours 1 = .ok (.aload_n 0, 1) := by decide +kernel
theorem dX8_isInHours_2 : decode cX8_isInHours 2 = .ok (.getfield 20, 3) := by decide +kernel
theorem dX8_isInHours_5 : decode cX8_isInHours 5 = .ok (.iload_n 1, 1) := by decide +kernel
theorem dX8_isInHours_6 : decode cX8_isInHours 6 = .ok (.iaload, 1) := by decide +kernel
theorem dX8_isInHours_7 : decode cX8_isInHours 7 = .ok (.if_icmp .lt 17, 3) := by decide +kernel
theorem dX8_isInHours_10 : decode cX8_isInHours 10 = .ok (.iload_n 2, 1) := by decide +kernel
theorem dX8_isInHours_11 : decode cX8_isInHours 11 = .ok (.aload_n 0, 1) := by decide +kernel
theorem dX8_isInHours_12 : decode cX8_isInHours 12 = .ok (.getfield 23, 3) := by decide +kernel
theorem dX8_isInHours_15 : decode cX8_isInHours 15 = .ok (.iload_n 1, 1) := by decide +kernel
theorem dX8_isInHours_16 : decode cX8_isInHours 16 = .ok (.iaload, 1) := by decide +kernel
theorem dX8_isInHours_17 : decode cX8_isInHours 17 = .ok (.if_icmp .ge 7, 3) := by decide +kernel
theorem dX8_isInHours_20 : decode cX8_isInHours 20 = .ok (.iconst 1, 1) := by decide +kernel
theorem dX8_isInHours_21 : decode cX8_isInHours 21 = .ok (.goto 4, 3) := by decide +kernel
theorem dX8_isInHours_24 : decode cX8_isInHours 24 = .ok (.iconst 0, 1) := by decide +kernel
theorem dX8_isInHours_25 : decode cX8_isInHours 25 = .ok (.ireturn, 1) := by decide +kernel
theorem dX8_add_0 : decode cX8_add 0 = .ok (.aload_n 0, 1) := by decide +kernel
theorem dX8_add_1 : decode cX8_add 1 = .ok (.invokevirtual 30, 3) := by decide +kernel
theorem dX8_add_4 : decode cX8_add 4 = .ok (.ifCond .eq 4, 3) := by decide +kernel
theorem dX8_add_7 : decode cX8_add 7 = .ok (.return_, 1) := by decide +kernel
theorem dX8_add_8 : decode cX8_add 8 = .ok (.aload_n 0, 1) := by decide +kernel
theorem dX8_add_9 : decode cX8_add 9 = .ok (.getfield 7, 3) := by decide +kernel
theorem dX8_add_12 : decode cX8_add 12 = .ok (.aload_n 0, 1) := by decide +kernel
theorem dX8_add_13 : decode cX8_add 13 = .ok (.getfield 26, 3) := by decide +kernel
theorem dX8_add_16 : decode cX8_add 16 = .ok (.lload_n 1, 1) := by decide +kernel
theorem dX8_add_17 : decode cX8_add 17 = .ok (.lastore, 1) := by decide +kernel
theorem dX8_add_18 : decode cX8_add 18 = .ok (.aload_n 0, 1) := by decide +kernel
theorem dX8_add_19 : decode cX8_add 19 = .ok (.getfield 13, 3) := by decide +kernel
theorem dX8_add_22 : decode cX8_add 22 = .ok (.aload_n 0, 1) := by decide +kernel
theorem dX8_add_23 : decode cX8_add 23 = .ok (.getfield 26, 3) := by decide +kernel
theorem dX8_add_26 : decode cX8_add 26 = .ok (.iload_n 3, 1) := by decide +kernel
theorem dX8_add_27 : decode cX8_add 27 = .ok (.iastore, 1) := by decide +kernel
theorem dX8_add_28 : decode cX8_add 28 = .ok (.aload_n 0, 1) := by decide +kernel
theorem dX8_add_29 : decode cX8_add 29 = .ok (.getfield 17, 3) := by decide +kernel
theorem dX8_add_32 : decode cX8_add 32 = .ok (.aload_n 0, 1) := by decide +kernel
theorem dX8_add_33 : decode cX8_add 33 = .ok (.getfield 26, 3) := by decide +kernel
theorem dX8_add_36 : decode cX8_add 36 = .ok (.iload 4, 2) := by decide +kernel
theorem dX8_add_38 : decode cX8_add 38 = .ok (.iastore, 1) := by decide +kernel
theorem dX8_add_39 : decode cX8_add 39 = .ok (.aload_n 0, 1) := by decide +kernel
theorem dX8_add_40 : decode cX8_add 40 = .ok (.getfield 20, 3) := by decide +kernel
theorem dX8_add_43 : decode cX8_add 43 = .ok (.aload_n 0, 1) := by decide +kernel
theorem dX8_add_44 : decode cX8_add 44 = .ok (.getfield 26, 3) := by decide +kernel
theorem dX8_add_47 : decode cX8_add 47 = .ok (.iload 5, 2) := by decide +kernel
theorem dX8_add_49 : decode cX8_add 49 = .ok (.iastore, 1) := by decide +kernel
theorem dX8_add_50 : decode cX8_add 50 = .ok (.aload_n 0, 1) := by decide +kernel
theorem dX8_add_51 : decode cX8_add 51 = .ok (.getfield 23, 3) := by decide +kernel
theorem dX8_add_54 : decode cX8_add 54 = .ok (.aload_n 0, 1) := by decide +kernel
theorem dX8_add_55 : decode cX8_add 55 = .ok (.getfield 26, 3) := by decide +kernel
theorem dX8_add_58 : decode cX8_add 58 = .ok (.iload 6, 2) := by decide +kernel
theorem dX8_add_60 : decode cX8_add 60 = .ok (.iastore, 1) := by decide +kernel
theorem dX8_add_61 : decode cX8_add 61 = .ok (.aload_n 0, 1) := by decide +kernel
theorem dX8_add_62 : decode cX8_add 62 = .ok (.dup, 1) := by decide +kernel
theorem dX8_add_63 : decode cX8_add 63 = .ok (.getfield 26, 3) := by decide +kernel
theorem dX8_add_66 : decode cX8_add 66 = .ok (.iconst 1, 1) := by decide +kernel
theorem dX8_add_67 : decode cX8_add 67 = .ok (.iadd, 1) := by decide +kernel
theorem dX8_add_68 : decode cX8_add 68 = .ok (.putfield 26, 3) := by decide +kernel
theorem dX8_add_71 : decode cX8_add 71 = .ok (.return_, 1) := by decide +kernel
theorem dX9_init_0 : decode cX9_init 0 = .ok (.aload_n 0, 1) := by decide +kernel
theorem dX9_init_1 : decode cX9_init 1 = .ok (.invokespecial 3, 3) := by decide +kernel
theorem dX9_init_4 : decode cX9_init 4 = .ok (.aload_n 0, 1) := by decide +kernel
theorem dX9_init_5 : decode cX9_init 5 = .ok (.bipush 19, 2) := by decide +kernel
theorem dX9_init_7 : decode cX9_init 7 = .ok (.newarray .long, 2) := by decide +kernel
theorem dX9_init_9 : decode cX9_init 9 = .ok (.putfield 9, 3) := by decide +kernel
theorem dX9_init_12 : decode cX9_init 12 = .ok (.aload_n 0, 1) := by decide +kernel
theorem dX9_init_13 : decode cX9_init 13 = .ok (.aload_n 1, 1) := by decide +kernel
theorem dX9_init_14 : decode cX9_init 14 = .ok (.putfield 15, 3) := by decide +kernel
theorem dX9_init_17 : decode cX9_init 17 = .ok (.iconst 0, 1) := by decide +kernel
theorem dX9_init_18 : decode cX9_init 18 = .ok (.istore_n 2, 1) := by decide +kernel
theorem dX9_init_19 : decode cX9_init 19 = .ok (.iconst 0, 1) := by decide +kernel
theorem dX9_init_20 : decode cX9_init 20 = .ok (.istore_n 3, 1) := by decide +kernel
theorem dX9_init_21 : decode cX9_init 21 = .ok (.iload_n 3, 1) := by decide +kernel
theorem dX9_init_22 : decode cX9_init 22 = .ok (.ldc 19, 2) := by decide +kernel
theorem dX9_init_24 : decode cX9_init 24 = .ok (.invokevirtual 21, 3) := by decide +kernel
theorem dX9_init_27 : decode cX9_init 27 = .ok (.if_icmp .ge 56, 3) := by decide +kernel
theorem dX9_init_30 : decode cX9_init 30 = .ok (.ldc 19, 2) := by decide +kernel
theorem dX9_init_32 : decode cX9_init 32 = .ok (.iload_n 3, 1) := by decide +kernel
theorem dX9_init_33 : decode cX9_init 33 = .ok (.invokevirtual 27, 3) := by decide +kernel
theorem dX9_init_36 : decode cX9_init 36 = .ok (.istore 4, 2) := by decide +kernel
theorem dX9_init_38 : decode cX9_init 38 = .ok (.iload 4, 2) := by decide +kernel
theorem dX9_init_40 : decode cX9_init 40 = .ok (.bipush 32, 2) := by decide +kernel
theorem dX9_init_42 : decode cX9_init 42 = .ok (.if_icmp .ne 9, 3) := by decide +kernel
theorem dX9_init_45 : decode cX9_init 45 = .ok (.iinc 2 1, 3) := by decide +kernel
theorem dX9_init_48 : decode cX9_init 48 = .ok (.goto 29, 3) := by decide +kernel
theorem dX9_init_51 : decode cX9_init 51 = .ok (.iload_n 2, 1) := by decide +kernel
theorem dX9_init_52 : decode cX9_init 52 = .ok (.aload_n 0, 1) := by decide +kernel
theorem dX9_init_53 : decode cX9_init 53 = .ok (.getfield 9, 3) := by decide +kernel
theorem dX9_init_56 : decode cX9_init 56 = .ok (.arraylength, 1) := by decide +kernel
theorem dX9_init_57 : decode cX9_init 57 = .ok (.if_icmp .ge 20, 3) := by decide +kernel
theorem dX9_init_60 : decode cX9_init 60 = .ok (.aload_n 0, 1) := by decide +kernel
theorem dX9_init_61 : decode cX9_init 61 = .ok (.getfield 9, 3) := by decide +kernel
theorem dX9_init_64 : decode cX9_init 64 = .ok (.iload_n 2, 1) := by decide +kernel
theorem dX9_init_65 : decode cX9_init 65 = .ok (.aload_n 0, 1) := by decide +kernel
theorem dX9_init_66 : decode cX9_init 66 = .ok (.getfield 9, 3) := by decide +kernel
theorem dX9_init_69 : decode cX9_init 69 = .ok (.iload_n 2, 1) := by decide +kernel
theorem dX9_init_70 : decode cX9_init 70 = .ok (.laload, 1) := by decide +kernel
theorem dX9_init_71 : decode cX9_init 71 = .ok (.iload 4, 2) := by decide +kernel
theorem dX9_init_73 : decode cX9_init 73 = .ok (.invokestatic 31, 3) := by decide +kernel
theorem dX9_init_76 : decode cX9_init 76 = .ok (.lastore, 1) := by decide +kernel
theorem dX9_init_77 : decode cX9_init 77 = .ok (.iinc 3 1, 3) := by decide +kernel
theorem dX9_init_80 : decode cX9_init 80 = .ok (.goto (-59), 3) := by decide +kernel
theorem dX9_init_83 : decode cX9_init 83 = .ok (.return_, 1) := by decide +kernel
theorem dX9_begin_0 : decode cX9_begin 0 = .ok (.aload_n 0, 1) := by decide +kernel
theorem dX9_begin_1 : decode cX9_begin 1 = .ok (.iload_n 1, 1) := by decide +kernel
theorem dX9_begin_2 : decode cX9_begin 2 = .ok (.aload_n 0, 1) := by decide +kernel
theorem dX9_begin_3 : decode cX9_begin 3 = .ok (.getfield 15, 3) := by decide +kernel
theorem dX9_begin_6 : decode cX9_begin 6 = .ok (.arraylength, 1) := by decide +kernel
theorem dX9_begin_7 : decode cX9_begin 7 = .ok (.invokestatic 35, 3) := by decide +kernel
theorem dX9_begin_10 : decode cX9_begin 10 = .ok (.putfield 41, 3) := by decide +kernel
theorem dX9_begin_13 : decode cX9_begin 13 = .ok (.aload_n 0, 1) := by decide +kernel
theorem dX9_begin_14 : decode cX9_begin 14 = .ok (.iconst 0, 1) := by decide +kernel
theorem dX9_begin_15 : decode cX9_begin 15 = .ok (.putfield 44, 3) := by decide +kernel
theorem dX9_begin_18 : decode cX9_begin 18 = .ok (.aload_n 0, 1) := by decide +kernel
theorem dX9_begin_19 : decode cX9_begin 19 = .ok (.invokevirtual 47, 3) := by decide +kernel
theorem dX9_begin_22 : decode cX9_begin 22 = .ok (.return_, 1) := by decide +kernel
theorem dX9_advance_0 : decode cX9_advance 0 = .ok (.aload_n 0, 1) := by decide +kernel
theorem dX9_advance_1 : decode cX9_advance 1 = .ok (.getfield 44, 3) := by decide +kernel
theorem dX9_advance_4 : decode cX9_advance 4 = .ok (.aload_n 0, 1) := by decide +kernel
theorem dX9_advance_5 : decode cX9_advance 5 = .ok (.getfield 41, 3) := by decide +kernel
theorem dX9_advance_8 : decode cX9_advance 8 = .ok (.if_icmp .ge 44, 3) := by decide +kernel
theorem dX9_advance_11 : decode cX9_advance 11 = .ok (.aload_n 0, 1) := by decide +kernel
theorem dX9_advance_12 : decode cX9_advance 12 = .ok (.getfield 15, 3) := by decide +kernel
theorem dX9_advance_15 : decode cX9_advance 15 = .ok (.aload_n 0, 1) := by decide +kernel
theorem dX9_advance_16 : decode cX9_advance 16 = .ok (.getfield 44, 3) := by decide +kernel
theorem dX9_advance_19 : decode cX9_advance 19 = .ok (.baload, 1) := by decide +kernel
theorem dX9_advance_20 : decode cX9_advance 20 = .ok (.bipush 32, 2) := by decide +kernel
theorem dX9_advance_22 : decode cX9_advance 22 = .ok (.if_icmp .eq 17, 3) := by decide +kernel
theorem dX9_advance_25 : decode cX9_advance 25 = .ok (.aload_n 0, 1) := by decide +kernel
theorem dX9_advance_26 : decode cX9_advance 26 = .ok (.getfield 15, 3) := by decide +kernel
theorem dX9_advance_29 : decode cX9_advance 29 = .ok (.aload_n 0, 1) := by decide +kernel
theorem dX9_advance_30 : decode cX9_advance 30 = .ok (.getfield 44, 3) := by decide +kernel
theorem dX9_advance_33 : decode cX9_advance 33 = .ok (.baload, 1) := by decide +kernel
theorem dX9_advance_34 : decode cX9_advance 34 = .ok (.bipush 10, 2) := by decide +kernel
theorem dX9_advance_36 : decode cX9_advance 36 = .ok (.if_icmp .ne 16, 3) := by decide +kernel
theorem dX9_advance_39 : decode cX9_advance 39 = .ok (.aload_n 0, 1) := by decide +kernel
theorem dX9_advance_40 : decode cX9_advance 40 = .ok (.dup, 1) := by decide +kernel
theorem dX9_advance_41 : decode cX9_advance 41 = .ok (.getfield 44, 3) := by decide +kernel
theorem dX9_advance_44 : decode cX9_advance 44 = .ok (.iconst 1, 1) := by decide +kernel
theorem dX9_advance_45 : decode cX9_advance 45 = .ok (.iadd, 1) := by decide +kernel
theorem dX9_advance_46 : decode cX9_advance 46 = .ok (.putfield 44, 3) := by decide +kernel
theorem dX9_advance_49 : decode cX9_advance 49 = .ok (.goto (-49), 3) := by decide +kernel
theorem dX9_advance_52 : decode cX9_advance 52 = .ok (.aload_n 0, 1) := by decide +kernel
theorem dX9_advance_53 : decode cX9_advance 53 = .ok (.aload_n 0, 1) := by decide +kernel
theorem dX9_advance_54 : decode cX9_advance 54 = .ok (.getfield 44, 3) := by decide +kernel
theorem dX9_advance_57 : decode cX9_advance 57 = .ok (.putfield 50, 3) := by decide +kernel
theorem dX9_advance_60 : decode cX9_advance 60 = .ok (.aload_n 0, 1) := by decide +kernel
theorem dX9_advance_61 : decode cX9_advance 61 = .ok (.lconst 0, 1) := by decide +kernel
theorem dX9_advance_62 : decode cX9_advance 62 = .ok (.putfield 53, 3) := by decide +kernel
theorem dX9_advance_65 : decode cX9_advance 65 = .ok (.aload_n 0, 1) := by decide +kernel
theorem dX9_advance_66 : decode cX9_advance 66 = .ok (.iconst 0, 1) := by decide +kernel
theorem dX9_advance_67 : decode cX9_advance 67 = .ok (.putfield 57, 3) := by decide +kernel
theorem dX9_advance_70 : decode cX9_advance 70 = .ok (.aload_n 0, 1) := by decide +kernel
theorem dX9_advance_71 : decode cX9_advance 71 = .ok (.getfield 44, 3) := by decide +kernel
theorem dX9_advance_74 : decode cX9_advance 74 = .ok (.aload_n 0, 1) := by decide +kernel
theorem dX9_advance_75 : decode cX9_advance 75 = .ok (.getfield 41, 3) := by decide +kernel
theorem dX9_advance_78 : decode cX9_advance 78 = .ok (.if_icmp .ge 51, 3) := by decide +kernel
theorem dX9_advance_81 : decode cX9_advance 81 = .ok (.aload_n 0, 1) := by decide +kernel
theorem dX9_advance_82 : decode cX9_advance 82 = .ok (.getfield 15, 3) := by decide +kernel
theorem dX9_advance_85 : decode cX9_advance 85 = .ok (.aload_n 0, 1) := by decide +kernel
theorem dX9_advance_86 : decode cX9_advance 86 = .ok (.getfield 44, 3) := by decide +kernel
theorem dX9_advance_89 : decode cX9_advance 89 = .ok (.baload, 1) := by decide +kernel
theorem dX9_advance_90 : decode cX9_advance 90 = .ok (.invokestatic 60, 3) := by decide +kernel
theorem dX9_advance_93 : decode cX9_advance 93 = .ok (.ifCond .eq 36, 3) := by decide +kernel
theorem dX9_advance_96 : decode cX9_advance 96 = .ok (.aload_n 0, 1) := by decide +kernel
theorem dX9_advance_97 : decode cX9_advance 97 = .ok (.aload_n 0, 1) := by decide +kernel
theorem dX9_advance_98 : decode cX9_advance 98 = .ok (.getfield 53, 3) := by decide +kernel
theorem dX9_advance_101 : decode cX9_advance 101 = .ok (.aload_n 0, 1) := by decide +kernel
theorem dX9_advance_102 : decode cX9_advance 102 = .ok (.getfield 15, 3) := by decide +kernel
theorem dX9_advance_105 : decode cX9_advance 105 = .ok (.aload_n 0, 1) := by decide +kernel
theorem dX9_advance_106 : decode cX9_advance 106 = .ok (.getfield 44, 3) := by decide +kernel
theorem dX9_advance_109 : decode cX9_advance 109 = .ok (.baload, 1) := by decide +kernel
theorem dX9_advance_110 : decode cX9_advance 110 = .ok (.invokestatic 31, 3) := by decide +kernel
theorem dX9_advance_113 : decode cX9_advance 113 = .ok (.putfield 53, 3) := by decide +kernel
theorem dX9_advance_116 : decode cX9_advance 116 = .ok (.aload_n 0, 1) := by decide +kernel
theorem dX9_advance_117 : decode cX9_advance 117 = .ok (.dup, 1) := by decide +kernel
theorem dX9_advance_118 : decode cX9_advance 118 = .ok (.getfield 44, 3) := by decide +kernel
theorem dX9_advance_121 : decode cX9_advance 121 = .ok (.iconst 1, 1) := by decide +kernel
theorem dX9_advance_122 : decode cX9_advance 122 = .ok (.iadd, 1) := by decide +kernel
theorem dX9_advance_123 : decode cX9_advance 123 = .ok (.putfield 44, 3) := by decide +kernel
theorem dX9_advance_126 : decode cX9_advance 126 = .ok (.goto (-56), 3) := by decide +kernel
theorem dX9_advance_129 : decode cX9_advance 129 = .ok (.aload_n 0, 1) := by decide +kernel
theorem dX9_advance_130 : decode cX9_advance 130 = .ok (.getfield 44, 3) := by decide +kernel
theorem dX9_advance_133 : decode cX9_advance 133 = .ok (.aload_n 0, 1) := by decide +kernel
theorem dX9_advance_134 : decode cX9_advance 134 = .ok (.getfield 50, 3) := by decide +kernel
theorem dX9_advance_137 : decode cX9_advance 137 = .ok (.if_icmp .le 31, 3) := by decide +kernel
theorem dX9_advance_140 : decode cX9_advance 140 = .ok (.aload_n 0, 1) := by decide +kernel
theorem dX9_advance_141 : decode cX9_advance 141 = .ok (.aload_n 0, 1) := by decide +kernel
theorem dX9_advance_142 : decode cX9_advance 142 = .ok (.getfield 44, 3) := by decide +kernel
theorem dX9_advance_145 : decode cX9_advance 145 = .ok (.aload_n 0, 1) := by decide +kernel
theorem dX9_advance_146 : decode cX9_advance 146 = .ok (.getfield 50, 3) := by decide +kernel
theorem dX9_advance_149 : decode cX9_advance 149 = .ok (.isub, 1) := by decide +kernel
theorem dX9_advance_150 : decode cX9_advance 150 = .ok (.bipush 8, 2) := by decide +kernel
theorem dX9_advance_152 : decode cX9_advance 152 = .ok (.if_icmp .le 8, 3) := by decide +kernel
theorem dX9_advance_155 : decode cX9_advance 155 = .ok (.bipush 23, 2) := by decide +kernel
theorem dX9_advance_157 : decode cX9_advance 157 = .ok (.goto 7, 3) := by decide +kernel
theorem dX9_advance_160 : decode cX9_advance 160 = .ok (.aload_n 0, 1) := by decide +kernel
theorem dX9_advance_161 : decode cX9_advance 161 = .ok (.invokevirtual 64, 3) := by decide +kernel
theorem dX9_advance_164 : decode cX9_advance 164 = .ok (.putfield 67, 3) := by decide +kernel
theorem dX9_advance_167 : decode cX9_advance 167 = .ok (.return_, 1) := by decide +kernel
theorem dX9_advance_168 : decode cX9_advance 168 = .ok (.aload_n 0, 1) := by decide +kernel
theorem dX9_advance_169 : decode cX9_advance 169 = .ok (.getfield 44, 3) := by decide +kernel
theorem dX9_advance_172 : decode cX9_advance 172 = .ok (.aload_n 0, 1) := by decide +kernel
theorem dX9_advance_173 : decode cX9_advance 173 = .ok (.getfield 41, 3) := by decide +kernel
theorem dX9_advance_176 : decode cX9_advance 176 = .ok (.if_icmp .ge 55, 3) := by decide +kernel
theorem dX9_advance_179 : decode cX9_advance 179 = .ok (.aload_n 0, 1) := by decide +kernel
theorem dX9_advance_180 : decode cX9_advance 180 = .ok (.getfield 15, 3) := by decide +kernel
theorem dX9_advance_183 : decode cX9_advance 183 = .ok (.aload_n 0, 1) := by decide +kernel
theorem dX9_advance_184 : decode cX9_advance 184 = .ok (.getfield 44, 3) := by decide +kernel
theorem dX9_advance_187 : decode cX9_advance 187 = .ok (.baload, 1) := by decide +kernel
theorem dX9_advance_188 : decode cX9_advance 188 = .ok (.invokestatic 70, 3) := by decide +kernel
theorem dX9_advance_191 : decode cX9_advance 191 = .ok (.ifCond .eq 40, 3) := by decide +kernel
theorem dX9_advance_194 : decode cX9_advance 194 = .ok (.aload_n 0, 1) := by decide +kernel
theorem dX9_advance_195 : decode cX9_advance 195 = .ok (.aload_n 0, 1) := by decide +kernel
theorem dX9_advance_196 : decode cX9_advance 196 = .ok (.getfield 57, 3) := by decide +kernel
theorem dX9_advance_199 : decode cX9_advance 199 = .ok (.bipush 10, 2) := by decide +kernel
theorem dX9_advance_201 : decode cX9_advance 201 = .ok (.imul, 1) := by decide +kernel
theorem dX9_advance_202 : decode cX9_advance 202 = .ok (.aload_n 0, 1) := by decide +kernel
theorem dX9_advance_203 : decode cX9_advance 203 = .ok (.getfield 15, 3) := by decide +kernel
theorem dX9_advance_206 : decode cX9_advance 206 = .ok (.aload_n 0, 1) := by decide +kernel
theorem dX9_advance_207 : decode cX9_advance 207 = .ok (.getfield 44, 3) := by decide +kernel
theorem dX9_advance_210 : decode cX9_advance 210 = .ok (.baload, 1) := by decide +kernel
theorem dX9_advance_211 : decode cX9_advance 211 = .ok (.bipush 48, 2) := by decide +kernel
theorem dX9_advance_213 : decode cX9_advance 213 = .ok (.isub, 1) := by decide +kernel
theorem dX9_advance_214 : decode cX9_advance 214 = .ok (.iadd, 1) := by decide +kernel
theorem dX9_advance_215 : decode cX9_advance 215 = .ok (.putfield 57, 3) := by decide +kernel
theorem dX9_advance_218 : decode cX9_advance 218 = .ok (.aload_n 0, 1) := by decide +kernel
theorem dX9_advance_219 : decode cX9_advance 219 = .ok (.dup, 1) := by decide +kernel
theorem dX9_advance_220 : decode cX9_advance 220 = .ok (.getfield 44, 3) := by decide +kernel
theorem dX9_advance_223 : decode cX9_advance 223 = .ok (.iconst 1, 1) := by decide +kernel
theorem dX9_advance_224 : decode cX9_advance 224 = .ok (.iadd, 1) := by decide +kernel
theorem dX9_advance_225 : decode cX9_advance 225 = .ok (.putfield 44, 3) := by decide +kernel
theorem dX9_advance_228 : decode cX9_advance 228 = .ok (.goto (-60), 3) := by decide +kernel
theorem dX9_advance_231 : decode cX9_advance 231 = .ok (.aload_n 0, 1) := by decide +kernel
theorem dX9_advance_232 : decode cX9_advance 232 = .ok (.getfield 44, 3) := by decide +kernel
theorem dX9_advance_235 : decode cX9_advance 235 = .ok (.aload_n 0, 1) := by decide +kernel
theorem dX9_advance_236 : decode cX9_advance 236 = .ok (.getfield 50, 3) := by decide +kernel
theorem dX9_advance_239 : decode cX9_advance 239 = .ok (.if_icmp .le 64, 3) := by decide +kernel
theorem dX9_advance_242 : decode cX9_advance 242 = .ok (.aload_n 0, 1) := by decide +kernel
theorem dX9_advance_243 : decode cX9_advance 243 = .ok (.getfield 44, 3) := by decide +kernel
theorem dX9_advance_246 : decode cX9_advance 246 = .ok (.aload_n 0, 1) := by decide +kernel
theorem dX9_advance_247 : decode cX9_advance 247 = .ok (.getfield 41, 3) := by decide +kernel
theorem dX9_advance_250 : decode cX9_advance 250 = .ok (.if_icmp .ge 22, 3) := by decide +kernel
theorem dX9_advance_253 : decode cX9_advance 253 = .ok (.aload_n 0, 1) := by decide +kernel
theorem dX9_advance_254 : decode cX9_advance 254 = .ok (.getfield 15, 3) := by decide +kernel
theorem dX9_advance_257 : decode cX9_advance 257 = .ok (.aload_n 0, 1) := by decide +kernel
theorem dX9_advance_258 : decode cX9_advance 258 = .ok (.getfield 44, 3) := by decide +kernel
theorem dX9_advance_261 : decode cX9_advance 261 = .ok (.baload, 1) := by decide +kernel
theorem dX9_advance_262 : decode cX9_advance 262 = .ok (.invokestatic 60, 3) := by decide +kernel
theorem dX9_advance_265 : decode cX9_advance 265 = .ok (.ifCond .eq 7, 3) := by decide +kernel
theorem dX9_advance_268 : decode cX9_advance 268 = .ok (.iconst 1, 1) := by decide +kernel
theorem dX9_advance_269 : decode cX9_advance 269 = .ok (.goto 4, 3) := by decide +kernel
theorem dX9_advance_272 : decode cX9_advance 272 = .ok (.iconst 0, 1) := by decide +kernel
theorem dX9_advance_273 : decode cX9_advance 273 = .ok (.istore_n 1, 1) := by decide +kernel
theorem dX9_advance_274 : decode cX9_advance 274 = .ok (.aload_n 0, 1) := by decide +kernel
theorem dX9_advance_275 : decode cX9_advance 275 = .ok (.aload_n 0, 1) := by decide +kernel
theorem dX9_advance_276 : decode cX9_advance 276 = .ok (.getfield 44, 3) := by decide +kernel
theorem dX9_advance_279 : decode cX9_advance 279 = .ok (.aload_n 0, 1) := by decide +kernel
theorem dX9_advance_280 : decode cX9_advance 280 = .ok (.getfield 50, 3) := by decide +kernel
theorem dX9_advance_283 : decode cX9_advance 283 = .ok (.isub, 1) := by decide +kernel
theorem dX9_advance_284 : decode cX9_advance 284 = .ok (.iconst 4, 1) := by decide +kernel
theorem dX9_advance_285 : decode cX9_advance 285 = .ok (.if_icmp .gt 7, 3) := by decide +kernel
theorem dX9_advance_288 : decode cX9_advance 288 = .ok (.iload_n 1, 1) := by decide +kernel

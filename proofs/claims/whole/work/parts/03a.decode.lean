theorem dX0_init_0 : decode cX0_init 0 = .ok (.aload_n 0, 1) := by decide +kernel
theorem dX0_init_1 : decode cX0_init 1 = .ok (.invokespecial 3, 3) := by decide +kernel
theorem dX0_init_4 : decode cX0_init 4 = .ok (.aload_n 0, 1) := by decide +kernel
theorem dX0_init_5 : decode cX0_init 5 = .ok (.new 9, 3) := by decide +kernel
theorem dX0_init_8 : decode cX0_init 8 = .ok (.dup, 1) := by decide +kernel
theorem dX0_init_9 : decode cX0_init 9 = .ok (.invokespecial 11, 3) := by decide +kernel
theorem dX0_init_12 : decode cX0_init 12 = .ok (.putfield 12, 3) := by decide +kernel
theorem dX0_init_15 : decode cX0_init 15 = .ok (.aload_n 0, 1) := by decide +kernel
theorem dX0_init_16 : decode cX0_init 16 = .ok (.sipush 1056, 3) := by decide +kernel
theorem dX0_init_19 : decode cX0_init 19 = .ok (.newarray .int, 2) := by decide +kernel
theorem dX0_init_21 : decode cX0_init 21 = .ok (.putfield 18, 3) := by decide +kernel
theorem dX0_init_24 : decode cX0_init 24 = .ok (.aload_n 0, 1) := by decide +kernel
theorem dX0_init_25 : decode cX0_init 25 = .ok (.bipush 33, 2) := by decide +kernel
theorem dX0_init_27 : decode cX0_init 27 = .ok (.newarray .int, 2) := by decide +kernel
theorem dX0_init_29 : decode cX0_init 29 = .ok (.putfield 22, 3) := by decide +kernel
theorem dX0_init_32 : decode cX0_init 32 = .ok (.return_, 1) := by decide +kernel
theorem dX0_clear_0 : decode cX0_clear 0 = .ok (.aload_n 0, 1) := by decide +kernel
theorem dX0_clear_1 : decode cX0_clear 1 = .ok (.getfield 18, 3) := by decide +kernel
theorem dX0_clear_4 : decode cX0_clear 4 = .ok (.iconst 0, 1) := by decide +kernel
theorem dX0_clear_5 : decode cX0_clear 5 = .ok (.invokestatic 25, 3) := by decide +kernel
theorem dX0_clear_8 : decode cX0_clear 8 = .ok (.aload_n 0, 1) := by decide +kernel
theorem dX0_clear_9 : decode cX0_clear 9 = .ok (.getfield 22, 3) := by decide +kernel
theorem dX0_clear_12 : decode cX0_clear 12 = .ok (.iconst 0, 1) := by decide +kernel
theorem dX0_clear_13 : decode cX0_clear 13 = .ok (.invokestatic 25, 3) := by decide +kernel
theorem dX0_clear_16 : decode cX0_clear 16 = .ok (.return_, 1) := by decide +kernel
theorem dX0_copyFrom_0 : decode cX0_copyFrom 0 = .ok (.aload_n 0, 1) := by decide +kernel
theorem dX0_copyFrom_1 : decode cX0_copyFrom 1 = .ok (.getfield 12, 3) := by decide +kernel
theorem dX0_copyFrom_4 : decode cX0_copyFrom 4 = .ok (.aload_n 1, 1) := by decide +kernel
theorem dX0_copyFrom_5 : decode cX0_copyFrom 5 = .ok (.getfield 12, 3) := by decide +kernel
theorem dX0_copyFrom_8 : decode cX0_copyFrom 8 = .ok (.invokevirtual 31, 3) := by decide +kernel
theorem dX0_copyFrom_11 : decode cX0_copyFrom 11 = .ok (.aload_n 1, 1) := by decide +kernel
theorem dX0_copyFrom_12 : decode cX0_copyFrom 12 = .ok (.getfield 18, 3) := by decide +kernel
theorem dX0_copyFrom_15 : decode cX0_copyFrom 15 = .ok (.iconst 0, 1) := by decide +kernel
theorem dX0_copyFrom_16 : decode cX0_copyFrom 16 = .ok (.aload_n 0, 1) := by decide +kernel
theorem dX0_copyFrom_17 : decode cX0_copyFrom 17 = .ok (.getfield 18, 3) := by decide +kernel
theorem dX0_copyFrom_20 : decode cX0_copyFrom 20 = .ok (.iconst 0, 1) := by decide +kernel
theorem dX0_copyFrom_21 : decode cX0_copyFrom 21 = .ok (.sipush 1056, 3) := by decide +kernel
theorem dX0_copyFrom_24 : decode cX0_copyFrom 24 = .ok (.invokestatic 35, 3) := by decide +kernel
theorem dX0_copyFrom_27 : decode cX0_copyFrom 27 = .ok (.aload_n 1, 1) := by decide +kernel
theorem dX0_copyFrom_28 : decode cX0_copyFrom 28 = .ok (.getfield 22, 3) := by decide +kernel
theorem dX0_copyFrom_31 : decode cX0_copyFrom 31 = .ok (.iconst 0, 1) := by decide +kernel
theorem dX0_copyFrom_32 : decode cX0_copyFrom 32 = .ok (.aload_n 0, 1) := by decide +kernel
theorem dX0_copyFrom_33 : decode cX0_copyFrom 33 = .ok (.getfield 22, 3) := by decide +kernel
theorem dX0_copyFrom_36 : decode cX0_copyFrom 36 = .ok (.iconst 0, 1) := by decide +kernel
theorem dX0_copyFrom_37 : decode cX0_copyFrom 37 = .ok (.bipush 33, 2) := by decide +kernel
theorem dX0_copyFrom_39 : decode cX0_copyFrom 39 = .ok (.invokestatic 35, 3) := by decide +kernel
theorem dX0_copyFrom_42 : decode cX0_copyFrom 42 = .ok (.return_, 1) := by decide +kernel
theorem dX0_wordIn_0 : decode cX0_wordIn 0 = .ok (.iload_n 1, 1) := by decide +kernel
theorem dX0_wordIn_1 : decode cX0_wordIn 1 = .ok (.ifCond .lt 19, 3) := by decide +kernel
theorem dX0_wordIn_4 : decode cX0_wordIn 4 = .ok (.iload_n 1, 1) := by decide +kernel
theorem dX0_wordIn_5 : decode cX0_wordIn 5 = .ok (.sipush 1056, 3) := by decide +kernel
theorem dX0_wordIn_8 : decode cX0_wordIn 8 = .ok (.if_icmp .ge 12, 3) := by decide +kernel
theorem dX0_wordIn_11 : decode cX0_wordIn 11 = .ok (.aload_n 0, 1) := by decide +kernel
theorem dX0_wordIn_12 : decode cX0_wordIn 12 = .ok (.getfield 18, 3) := by decide +kernel
theorem dX0_wordIn_15 : decode cX0_wordIn 15 = .ok (.iload_n 1, 1) := by decide +kernel
theorem dX0_wordIn_16 : decode cX0_wordIn 16 = .ok (.iaload, 1) := by decide +kernel
theorem dX0_wordIn_17 : decode cX0_wordIn 17 = .ok (.goto 4, 3) := by decide +kernel
theorem dX0_wordIn_20 : decode cX0_wordIn 20 = .ok (.iconst 0, 1) := by decide +kernel
theorem dX0_wordIn_21 : decode cX0_wordIn 21 = .ok (.ireturn, 1) := by decide +kernel
theorem dX0_putWordIn_0 : decode cX0_putWordIn 0 = .ok (.iload_n 1, 1) := by decide +kernel
theorem dX0_putWordIn_1 : decode cX0_putWordIn 1 = .ok (.ifCond .lt 17, 3) := by decide +kernel
theorem dX0_putWordIn_4 : decode cX0_putWordIn 4 = .ok (.iload_n 1, 1) := by decide +kernel
theorem dX0_putWordIn_5 : decode cX0_putWordIn 5 = .ok (.sipush 1056, 3) := by decide +kernel
theorem dX0_putWordIn_8 : decode cX0_putWordIn 8 = .ok (.if_icmp .ge 10, 3) := by decide +kernel
theorem dX0_putWordIn_11 : decode cX0_putWordIn 11 = .ok (.aload_n 0, 1) := by decide +kernel
theorem dX0_putWordIn_12 : decode cX0_putWordIn 12 = .ok (.getfield 18, 3) := by decide +kernel
theorem dX0_putWordIn_15 : decode cX0_putWordIn 15 = .ok (.iload_n 1, 1) := by decide +kernel
theorem dX0_putWordIn_16 : decode cX0_putWordIn 16 = .ok (.iload_n 2, 1) := by decide +kernel
theorem dX0_putWordIn_17 : decode cX0_putWordIn 17 = .ok (.iastore, 1) := by decide +kernel
theorem dX0_putWordIn_18 : decode cX0_putWordIn 18 = .ok (.return_, 1) := by decide +kernel
theorem dX0_spareBit_0 : decode cX0_spareBit 0 = .ok (.iload_n 1, 1) := by decide +kernel
theorem dX0_spareBit_1 : decode cX0_spareBit 1 = .ok (.iconst 2, 1) := by decide +kernel
theorem dX0_spareBit_2 : decode cX0_spareBit 2 = .ok (.imul, 1) := by decide +kernel
theorem dX0_spareBit_3 : decode cX0_spareBit 3 = .ok (.iload_n 2, 1) := by decide +kernel
theorem dX0_spareBit_4 : decode cX0_spareBit 4 = .ok (.iadd, 1) := by decide +kernel
theorem dX0_spareBit_5 : decode cX0_spareBit 5 = .ok (.istore_n 3, 1) := by decide +kernel
theorem dX0_spareBit_6 : decode cX0_spareBit 6 = .ok (.iload_n 3, 1) := by decide +kernel
theorem dX0_spareBit_7 : decode cX0_spareBit 7 = .ok (.ifCond .lt 29, 3) := by decide +kernel
theorem dX0_spareBit_10 : decode cX0_spareBit 10 = .ok (.iload_n 3, 1) := by decide +kernel
theorem dX0_spareBit_11 : decode cX0_spareBit 11 = .ok (.iconst 5, 1) := by decide +kernel
theorem dX0_spareBit_12 : decode cX0_spareBit 12 = .ok (.ishr, 1) := by decide +kernel
theorem dX0_spareBit_13 : decode cX0_spareBit 13 = .ok (.bipush 33, 2) := by decide +kernel
theorem dX0_spareBit_15 : decode cX0_spareBit 15 = .ok (.if_icmp .ge 21, 3) := by decide +kernel
theorem dX0_spareBit_18 : decode cX0_spareBit 18 = .ok (.aload_n 0, 1) := by decide +kernel
theorem dX0_spareBit_19 : decode cX0_spareBit 19 = .ok (.getfield 22, 3) := by decide +kernel
theorem dX0_spareBit_22 : decode cX0_spareBit 22 = .ok (.iload_n 3, 1) := by decide +kernel
theorem dX0_spareBit_23 : decode cX0_spareBit 23 = .ok (.iconst 5, 1) := by decide +kernel
theorem dX0_spareBit_24 : decode cX0_spareBit 24 = .ok (.ishr, 1) := by decide +kernel
theorem dX0_spareBit_25 : decode cX0_spareBit 25 = .ok (.iaload, 1) := by decide +kernel
theorem dX0_spareBit_26 : decode cX0_spareBit 26 = .ok (.iload_n 3, 1) := by decide +kernel
theorem dX0_spareBit_27 : decode cX0_spareBit 27 = .ok (.bipush 31, 2) := by decide +kernel
theorem dX0_spareBit_29 : decode cX0_spareBit 29 = .ok (.iand, 1) := by decide +kernel
theorem dX0_spareBit_30 : decode cX0_spareBit 30 = .ok (.iushr, 1) := by decide +kernel
theorem dX0_spareBit_31 : decode cX0_spareBit 31 = .ok (.iconst 1, 1) := by decide +kernel
theorem dX0_spareBit_32 : decode cX0_spareBit 32 = .ok (.iand, 1) := by decide +kernel
theorem dX0_spareBit_33 : decode cX0_spareBit 33 = .ok (.goto 4, 3) := by decide +kernel
theorem dX0_spareBit_36 : decode cX0_spareBit 36 = .ok (.iconst 0, 1) := by decide +kernel
theorem dX0_spareBit_37 : decode cX0_spareBit 37 = .ok (.ireturn, 1) := by decide +kernel
theorem dX0_putSpareBit_0 : decode cX0_putSpareBit 0 = .ok (.iload_n 1, 1) := by decide +kernel
theorem dX0_putSpareBit_1 : decode cX0_putSpareBit 1 = .ok (.iconst 2, 1) := by decide +kernel
theorem dX0_putSpareBit_2 : decode cX0_putSpareBit 2 = .ok (.imul, 1) := by decide +kernel
theorem dX0_putSpareBit_3 : decode cX0_putSpareBit 3 = .ok (.iload_n 2, 1) := by decide +kernel
theorem dX0_putSpareBit_4 : decode cX0_putSpareBit 4 = .ok (.iadd, 1) := by decide +kernel
theorem dX0_putSpareBit_5 : decode cX0_putSpareBit 5 = .ok (.istore 4, 2) := by decide +kernel
theorem dX0_putSpareBit_7 : decode cX0_putSpareBit 7 = .ok (.iload 4, 2) := by decide +kernel
theorem dX0_putSpareBit_9 : decode cX0_putSpareBit 9 = .ok (.ifCond .lt 39, 3) := by decide +kernel
theorem dX0_putSpareBit_12 : decode cX0_putSpareBit 12 = .ok (.iload 4, 2) := by decide +kernel
theorem dX0_putSpareBit_14 : decode cX0_putSpareBit 14 = .ok (.iconst 5, 1) := by decide +kernel
theorem dX0_putSpareBit_15 : decode cX0_putSpareBit 15 = .ok (.ishr, 1) := by decide +kernel
theorem dX0_putSpareBit_16 : decode cX0_putSpareBit 16 = .ok (.bipush 33, 2) := by decide +kernel
theorem dX0_putSpareBit_18 : decode cX0_putSpareBit 18 = .ok (.if_icmp .ge 30, 3) := by decide +kernel
theorem dX0_putSpareBit_21 : decode cX0_putSpareBit 21 = .ok (.aload_n 0, 1) := by decide +kernel
theorem dX0_putSpareBit_22 : decode cX0_putSpareBit 22 = .ok (.getfield 22, 3) := by decide +kernel
theorem dX0_putSpareBit_25 : decode cX0_putSpareBit 25 = .ok (.iload 4, 2) := by decide +kernel
theorem dX0_putSpareBit_27 : decode cX0_putSpareBit 27 = .ok (.iconst 5, 1) := by decide +kernel
theorem dX0_putSpareBit_28 : decode cX0_putSpareBit 28 = .ok (.ishr, 1) := by decide +kernel
theorem dX0_putSpareBit_29 : decode cX0_putSpareBit 29 = .ok (.aload_n 0, 1) := by decide +kernel
theorem dX0_putSpareBit_30 : decode cX0_putSpareBit 30 = .ok (.getfield 22, 3) := by decide +kernel
theorem dX0_putSpareBit_33 : decode cX0_putSpareBit 33 = .ok (.iload 4, 2) := by decide +kernel
theorem dX0_putSpareBit_35 : decode cX0_putSpareBit 35 = .ok (.iconst 5, 1) := by decide +kernel
theorem dX0_putSpareBit_36 : decode cX0_putSpareBit 36 = .ok (.ishr, 1) := by decide +kernel
theorem dX0_putSpareBit_37 : decode cX0_putSpareBit 37 = .ok (.iaload, 1) := by decide +kernel
theorem dX0_putSpareBit_38 : decode cX0_putSpareBit 38 = .ok (.iload 4, 2) := by decide +kernel
theorem dX0_putSpareBit_40 : decode cX0_putSpareBit 40 = .ok (.bipush 31, 2) := by decide +kernel
theorem dX0_putSpareBit_42 : decode cX0_putSpareBit 42 = .ok (.iand, 1) := by decide +kernel
theorem dX0_putSpareBit_43 : decode cX0_putSpareBit 43 = .ok (.iload_n 3, 1) := by decide +kernel
theorem dX0_putSpareBit_44 : decode cX0_putSpareBit 44 = .ok (.invokestatic 41, 3) := by decide +kernel
theorem dX0_putSpareBit_47 : decode cX0_putSpareBit 47 = .ok (.iastore, 1) := by decide +kernel
theorem dX0_putSpareBit_48 : decode cX0_putSpareBit 48 = .ok (.return_, 1) := by decide +kernel
theorem dX0_withBit_0 : decode cX0_withBit 0 = .ok (.iload_n 0, 1) := by decide +kernel
theorem dX0_withBit_1 : decode cX0_withBit 1 = .ok (.iconst 1, 1) := by decide +kernel
theorem dX0_withBit_2 : decode cX0_withBit 2 = .ok (.iload_n 1, 1) := by decide +kernel
theorem dX0_withBit_3 : decode cX0_withBit 3 = .ok (.ishl, 1) := by decide +kernel
theorem dX0_withBit_4 : decode cX0_withBit 4 = .ok (.iconst (-1), 1) := by decide +kernel
theorem dX0_withBit_5 : decode cX0_withBit 5 = .ok (.ixor, 1) := by decide +kernel
theorem dX0_withBit_6 : decode cX0_withBit 6 = .ok (.iand, 1) := by decide +kernel
theorem dX0_withBit_7 : decode cX0_withBit 7 = .ok (.iload_n 2, 1) := by decide +kernel
theorem dX0_withBit_8 : decode cX0_withBit 8 = .ok (.iload_n 1, 1) := by decide +kernel
theorem dX0_withBit_9 : decode cX0_withBit 9 = .ok (.ishl, 1) := by decide +kernel
theorem dX0_withBit_10 : decode cX0_withBit 10 = .ok (.ior, 1) := by decide +kernel
theorem dX0_withBit_11 : decode cX0_withBit 11 = .ok (.ireturn, 1) := by decide +kernel
theorem dX1_init_0 : decode cX1_init 0 = .ok (.aload_n 0, 1) := by decide +kernel
theorem dX1_init_1 : decode cX1_init 1 = .ok (.invokespecial 3, 3) := by decide +kernel
theorem dX1_init_4 : decode cX1_init 4 = .ok (.aload_n 0, 1) := by decide +kernel
theorem dX1_init_5 : decode cX1_init 5 = .ok (.bipush 6, 2) := by decide +kernel
theorem dX1_init_7 : decode cX1_init 7 = .ok (.anewarray 9, 3) := by decide +kernel
theorem dX1_init_10 : decode cX1_init 10 = .ok (.putfield 11, 3) := by decide +kernel
theorem dX1_init_13 : decode cX1_init 13 = .ok (.return_, 1) := by decide +kernel
theorem dX1_remember_0 : decode cX1_remember 0 = .ok (.aload_n 0, 1) := by decide +kernel
theorem dX1_remember_1 : decode cX1_remember 1 = .ok (.getfield 11, 3) := by decide +kernel
theorem dX1_remember_4 : decode cX1_remember 4 = .ok (.aload_n 0, 1) := by decide +kernel
theorem dX1_remember_5 : decode cX1_remember 5 = .ok (.getfield 17, 3) := by decide +kernel
theorem dX1_remember_8 : decode cX1_remember 8 = .ok (.aaload, 1) := by decide +kernel
theorem dX1_remember_9 : decode cX1_remember 9 = .ok (.ifnonnull 19, 3) := by decide +kernel
theorem dX1_remember_12 : decode cX1_remember 12 = .ok (.aload_n 0, 1) := by decide +kernel
theorem dX1_remember_13 : decode cX1_remember 13 = .ok (.getfield 11, 3) := by decide +kernel
theorem dX1_remember_16 : decode cX1_remember 16 = .ok (.aload_n 0, 1) := by decide +kernel
theorem dX1_remember_17 : decode cX1_remember 17 = .ok (.getfield 17, 3) := by decide +kernel
theorem dX1_remember_20 : decode cX1_remember 20 = .ok (.new 9, 3) := by decide +kernel
theorem dX1_remember_23 : decode cX1_remember 23 = .ok (.dup, 1) := by decide +kernel
theorem dX1_remember_24 : decode cX1_remember 24 = .ok (.invokespecial 21, 3) := by decide +kernel
theorem dX1_remember_27 : decode cX1_remember 27 = .ok (.aastore, 1) := by decide +kernel
theorem dX1_remember_28 : decode cX1_remember 28 = .ok (.aload_n 0, 1) := by decide +kernel
theorem dX1_remember_29 : decode cX1_remember 29 = .ok (.getfield 11, 3) := by decide +kernel
theorem dX1_remember_32 : decode cX1_remember 32 = .ok (.aload_n 0, 1) := by decide +kernel
theorem dX1_remember_33 : decode cX1_remember 33 = .ok (.getfield 17, 3) := by decide +kernel
theorem dX1_remember_36 : decode cX1_remember 36 = .ok (.aaload, 1) := by decide +kernel
theorem dX1_remember_37 : decode cX1_remember 37 = .ok (.aload_n 1, 1) := by decide +kernel
theorem dX1_remember_38 : decode cX1_remember 38 = .ok (.invokevirtual 22, 3) := by decide +kernel
theorem dX1_remember_41 : decode cX1_remember 41 = .ok (.aload_n 0, 1) := by decide +kernel
theorem dX1_remember_42 : decode cX1_remember 42 = .ok (.aload_n 0, 1) := by decide +kernel
theorem dX1_remember_43 : decode cX1_remember 43 = .ok (.getfield 17, 3) := by decide +kernel
theorem dX1_remember_46 : decode cX1_remember 46 = .ok (.iconst 1, 1) := by decide +kernel
theorem dX1_remember_47 : decode cX1_remember 47 = .ok (.iadd, 1) := by decide +kernel
theorem dX1_remember_48 : decode cX1_remember 48 = .ok (.bipush 6, 2) := by decide +kernel
theorem dX1_remember_50 : decode cX1_remember 50 = .ok (.irem, 1) := by decide +kernel
theorem dX1_remember_51 : decode cX1_remember 51 = .ok (.putfield 17, 3) := by decide +kernel
theorem dX1_remember_54 : decode cX1_remember 54 = .ok (.aload_n 0, 1) := by decide +kernel
theorem dX1_remember_55 : decode cX1_remember 55 = .ok (.aload_n 0, 1) := by decide +kernel
theorem dX1_remember_56 : decode cX1_remember 56 = .ok (.getfield 26, 3) := by decide +kernel
theorem dX1_remember_59 : decode cX1_remember 59 = .ok (.iconst 1, 1) := by decide +kernel
theorem dX1_remember_60 : decode cX1_remember 60 = .ok (.iadd, 1) := by decide +kernel
theorem dX1_remember_61 : decode cX1_remember 61 = .ok (.bipush 6, 2) := by decide +kernel
theorem dX1_remember_63 : decode cX1_remember 63 = .ok (.invokestatic 29, 3) := by decide +kernel
theorem dX1_remember_66 : decode cX1_remember 66 = .ok (.putfield 26, 3) := by decide +kernel
theorem dX1_remember_69 : decode cX1_remember 69 = .ok (.return_, 1) := by decide +kernel
theorem dX1_restore_0 : decode cX1_restore 0 = .ok (.aload_n 0, 1) := by decide +kernel
theorem dX1_restore_1 : decode cX1_restore 1 = .ok (.getfield 17, 3) := by decide +kernel
theorem dX1_restore_4 : decode cX1_restore 4 = .ok (.bipush 6, 2) := by decide +kernel
theorem dX1_restore_6 : decode cX1_restore 6 = .ok (.iadd, 1) := by decide +kernel
theorem dX1_restore_7 : decode cX1_restore 7 = .ok (.iconst 1, 1) := by decide +kernel
theorem dX1_restore_8 : decode cX1_restore 8 = .ok (.isub, 1) := by decide +kernel
theorem dX1_restore_9 : decode cX1_restore 9 = .ok (.bipush 6, 2) := by decide +kernel
theorem dX1_restore_11 : decode cX1_restore 11 = .ok (.irem, 1) := by decide +kernel
theorem dX1_restore_12 : decode cX1_restore 12 = .ok (.istore_n 2, 1) := by decide +kernel
theorem dX1_restore_13 : decode cX1_restore 13 = .ok (.aload_n 0, 1) := by decide +kernel
theorem dX1_restore_14 : decode cX1_restore 14 = .ok (.getfield 26, 3) := by decide +kernel
theorem dX1_restore_17 : decode cX1_restore 17 = .ok (.ifCond .eq 12, 3) := by decide +kernel
theorem dX1_restore_20 : decode cX1_restore 20 = .ok (.aload_n 0, 1) := by decide +kernel
theorem dX1_restore_21 : decode cX1_restore 21 = .ok (.getfield 11, 3) := by decide +kernel
theorem dX1_restore_24 : decode cX1_restore 24 = .ok (.iload_n 2, 1) := by decide +kernel
theorem dX1_restore_25 : decode cX1_restore 25 = .ok (.aaload, 1) := by decide +kernel
theorem dX1_restore_26 : decode cX1_restore 26 = .ok (.ifnonnull 5, 3) := by decide +kernel
theorem dX1_restore_29 : decode cX1_restore 29 = .ok (.iconst 0, 1) := by decide +kernel
theorem dX1_restore_30 : decode cX1_restore 30 = .ok (.ireturn, 1) := by decide +kernel
theorem dX1_restore_31 : decode cX1_restore 31 = .ok (.aload_n 1, 1) := by decide +kernel
theorem dX1_restore_32 : decode cX1_restore 32 = .ok (.aload_n 0, 1) := by decide +kernel
theorem dX1_restore_33 : decode cX1_restore 33 = .ok (.getfield 11, 3) := by decide +kernel
theorem dX1_restore_36 : decode cX1_restore 36 = .ok (.iload_n 2, 1) := by decide +kernel
theorem dX1_restore_37 : decode cX1_restore 37 = .ok (.aaload, 1) := by decide +kernel
theorem dX1_restore_38 : decode cX1_restore 38 = .ok (.invokevirtual 22, 3) := by decide +kernel
theorem dX1_restore_41 : decode cX1_restore 41 = .ok (.aload_n 0, 1) := by decide +kernel
theorem dX1_restore_42 : decode cX1_restore 42 = .ok (.iload_n 2, 1) := by decide +kernel
theorem dX1_restore_43 : decode cX1_restore 43 = .ok (.putfield 17, 3) := by decide +kernel
theorem dX1_restore_46 : decode cX1_restore 46 = .ok (.aload_n 0, 1) := by decide +kernel
theorem dX1_restore_47 : decode cX1_restore 47 = .ok (.dup, 1) := by decide +kernel
theorem dX1_restore_48 : decode cX1_restore 48 = .ok (.getfield 26, 3) := by decide +kernel
theorem dX1_restore_51 : decode cX1_restore 51 = .ok (.iconst 1, 1) := by decide +kernel
theorem dX1_restore_52 : decode cX1_restore 52 = .ok (.isub, 1) := by decide +kernel
theorem dX1_restore_53 : decode cX1_restore 53 = .ok (.putfield 26, 3) := by decide +kernel
theorem dX1_restore_56 : decode cX1_restore 56 = .ok (.iconst 1, 1) := by decide +kernel
theorem dX1_restore_57 : decode cX1_restore 57 = .ok (.ireturn, 1) := by decide +kernel
theorem dX1_forget_0 : decode cX1_forget 0 = .ok (.aload_n 0, 1) := by decide +kernel
theorem dX1_forget_1 : decode cX1_forget 1 = .ok (.iconst 0, 1) := by decide +kernel
theorem dX1_forget_2 : decode cX1_forget 2 = .ok (.putfield 26, 3) := by decide +kernel
theorem dX1_forget_5 : decode cX1_forget 5 = .ok (.return_, 1) := by decide +kernel
theorem dX2_init_0 : decode cX2_init 0 = .ok (.aload_n 0, 1) := by decide +kernel
theorem dX2_init_1 : decode cX2_init 1 = .ok (.invokespecial 3, 3) := by decide +kernel
theorem dX2_init_4 : decode cX2_init 4 = .ok (.aload_n 0, 1) := by decide +kernel
theorem dX2_init_5 : decode cX2_init 5 = .ok (.new 9, 3) := by decide +kernel
theorem dX2_init_8 : decode cX2_init 8 = .ok (.dup, 1) := by decide +kernel
theorem dX2_init_9 : decode cX2_init 9 = .ok (.invokespecial 11, 3) := by decide +kernel
theorem dX2_init_12 : decode cX2_init 12 = .ok (.putfield 12, 3) := by decide +kernel
theorem dX2_init_15 : decode cX2_init 15 = .ok (.aload_n 0, 1) := by decide +kernel
theorem dX2_init_16 : decode cX2_init 16 = .ok (.new 18, 3) := by decide +kernel
theorem dX2_init_19 : decode cX2_init 19 = .ok (.dup, 1) := by decide +kernel
theorem dX2_init_20 : decode cX2_init 20 = .ok (.invokespecial 20, 3) := by decide +kernel
theorem dX2_init_23 : decode cX2_init 23 = .ok (.putfield 21, 3) := by decide +kernel
theorem dX2_init_26 : decode cX2_init 26 = .ok (.return_, 1) := by decide +kernel
theorem dX2_take_0 : decode cX2_take 0 = .ok (.aload_n 0, 1) := by decide +kernel
theorem dX2_take_1 : decode cX2_take 1 = .ok (.getfield 21, 3) := by decide +kernel
theorem dX2_take_4 : decode cX2_take 4 = .ok (.aload_n 1, 1) := by decide +kernel
theorem dX2_take_5 : decode cX2_take 5 = .ok (.invokevirtual 25, 3) := by decide +kernel
theorem dX2_take_8 : decode cX2_take 8 = .ok (.aload_n 0, 1) := by decide +kernel
theorem dX2_take_9 : decode cX2_take 9 = .ok (.getfield 12, 3) := by decide +kernel
theorem dX2_take_12 : decode cX2_take 12 = .ok (.invokevirtual 29, 3) := by decide +kernel
theorem dX2_take_15 : decode cX2_take 15 = .ok (.aload_n 0, 1) := by decide +kernel
theorem dX2_take_16 : decode cX2_take 16 = .ok (.iconst 0, 1) := by decide +kernel
theorem dX2_take_17 : decode cX2_take 17 = .ok (.putfield 32, 3) := by decide +kernel
theorem dX2_take_20 : decode cX2_take 20 = .ok (.aload_n 0, 1) := by decide +kernel
theorem dX2_take_21 : decode cX2_take 21 = .ok (.iconst (-1), 1) := by decide +kernel
theorem dX2_take_22 : decode cX2_take 22 = .ok (.putfield 36, 3) := by decide +kernel
theorem dX2_take_25 : decode cX2_take 25 = .ok (.aload_n 0, 1) := by decide +kernel
theorem dX2_take_26 : decode cX2_take 26 = .ok (.iconst 0, 1) := by decide +kernel
theorem dX2_take_27 : decode cX2_take 27 = .ok (.putfield 39, 3) := by decide +kernel
theorem dX2_take_30 : decode cX2_take 30 = .ok (.aload_n 0, 1) := by decide +kernel
theorem dX2_take_31 : decode cX2_take 31 = .ok (.invokevirtual 42, 3) := by decide +kernel
theorem dX2_take_34 : decode cX2_take 34 = .ok (.iconst 1, 1) := by decide +kernel
theorem dX2_take_35 : decode cX2_take 35 = .ok (.istore_n 2, 1) := by decide +kernel
theorem dX2_take_36 : decode cX2_take 36 = .ok (.iconst 0, 1) := by decide +kernel
theorem dX2_take_37 : decode cX2_take 37 = .ok (.istore_n 3, 1) := by decide +kernel
theorem dX2_take_38 : decode cX2_take 38 = .ok (.iload_n 3, 1) := by decide +kernel
theorem dX2_take_39 : decode cX2_take 39 = .ok (.sipush 300, 3) := by decide +kernel
theorem dX2_take_42 : decode cX2_take 42 = .ok (.if_icmp .gt 25, 3) := by decide +kernel
theorem dX2_take_45 : decode cX2_take 45 = .ok (.iload_n 2, 1) := by decide +kernel
theorem dX2_take_46 : decode cX2_take 46 = .ok (.ifCond .eq 21, 3) := by decide +kernel
theorem dX2_take_49 : decode cX2_take 49 = .ok (.aload_n 0, 1) := by decide +kernel
theorem dX2_take_50 : decode cX2_take 50 = .ok (.getfield 45, 3) := by decide +kernel
theorem dX2_take_53 : decode cX2_take 53 = .ok (.ifCond .eq 14, 3) := by decide +kernel
theorem dX2_take_56 : decode cX2_take 56 = .ok (.aload_n 0, 1) := by decide +kernel
theorem dX2_take_57 : decode cX2_take 57 = .ok (.invokevirtual 48, 3) := by decide +kernel
theorem dX2_take_60 : decode cX2_take 60 = .ok (.istore_n 2, 1) := by decide +kernel
theorem dX2_take_61 : decode cX2_take 61 = .ok (.iinc 3 1, 3) := by decide +kernel
theorem dX2_take_64 : decode cX2_take 64 = .ok (.goto (-26), 3) := by decide +kernel
theorem dX2_take_67 : decode cX2_take 67 = .ok (.iload_n 2, 1) := by decide +kernel
theorem dX2_take_68 : decode cX2_take 68 = .ok (.ifCond .ne 16, 3) := by decide +kernel
theorem dX2_take_71 : decode cX2_take 71 = .ok (.aload_n 0, 1) := by decide +kernel
theorem dX2_take_72 : decode cX2_take 72 = .ok (.iconst 1, 1) := by decide +kernel
theorem dX2_take_73 : decode cX2_take 73 = .ok (.putfield 32, 3) := by decide +kernel
theorem dX2_take_76 : decode cX2_take 76 = .ok (.aload_n 0, 1) := by decide +kernel
theorem dX2_take_77 : decode cX2_take 77 = .ok (.aload_n 0, 1) := by decide +kernel
theorem dX2_take_78 : decode cX2_take 78 = .ok (.getfield 52, 3) := by decide +kernel
theorem dX2_take_81 : decode cX2_take 81 = .ok (.putfield 36, 3) := by decide +kernel
theorem dX2_take_84 : decode cX2_take 84 = .ok (.return_, 1) := by decide +kernel
theorem dX2_takeLine_0 : decode cX2_takeLine 0 = .ok (.aload_n 0, 1) := by decide +kernel
theorem dX2_takeLine_1 : decode cX2_takeLine 1 = .ok (.getfield 45, 3) := by decide +kernel
theorem dX2_takeLine_4 : decode cX2_takeLine 4 = .ok (.iconst 1, 1) := by decide +kernel
theorem dX2_takeLine_5 : decode cX2_takeLine 5 = .ok (.if_icmp .ne 10, 3) := by decide +kernel
theorem dX2_takeLine_8 : decode cX2_takeLine 8 = .ok (.aload_n 0, 1) := by decide +kernel
theorem dX2_takeLine_9 : decode cX2_takeLine 9 = .ok (.invokevirtual 55, 3) := by decide +kernel
theorem dX2_takeLine_12 : decode cX2_takeLine 12 = .ok (.goto 4, 3) := by decide +kernel
theorem dX2_takeLine_15 : decode cX2_takeLine 15 = .ok (.iconst (-1), 1) := by decide +kernel
theorem dX2_takeLine_16 : decode cX2_takeLine 16 = .ok (.istore_n 1, 1) := by decide +kernel
theorem dX2_takeLine_17 : decode cX2_takeLine 17 = .ok (.iload_n 1, 1) := by decide +kernel
theorem dX2_takeLine_18 : decode cX2_takeLine 18 = .ok (.iconst (-1), 1) := by decide +kernel
theorem dX2_takeLine_19 : decode cX2_takeLine 19 = .ok (.if_icmp .ne 5, 3) := by decide +kernel
theorem dX2_takeLine_22 : decode cX2_takeLine 22 = .ok (.iconst 0, 1) := by decide +kernel
theorem dX2_takeLine_23 : decode cX2_takeLine 23 = .ok (.ireturn, 1) := by decide +kernel
theorem dX2_takeLine_24 : decode cX2_takeLine 24 = .ok (.iload_n 1, 1) := by decide +kernel
theorem dX2_takeLine_25 : decode cX2_takeLine 25 = .ok (.bipush 6, 2) := by decide +kernel
theorem dX2_takeLine_27 : decode cX2_takeLine 27 = .ok (.if_icmp .ne 11, 3) := by decide +kernel
theorem dX2_takeLine_30 : decode cX2_takeLine 30 = .ok (.aload_n 0, 1) := by decide +kernel
theorem dX2_takeLine_31 : decode cX2_takeLine 31 = .ok (.invokevirtual 59, 3) := by decide +kernel
theorem dX2_takeLine_34 : decode cX2_takeLine 34 = .ok (.istore_n 2, 1) := by decide +kernel
theorem dX2_takeLine_35 : decode cX2_takeLine 35 = .ok (.goto 23, 3) := by decide +kernel
theorem dX2_takeLine_38 : decode cX2_takeLine 38 = .ok (.iload_n 1, 1) := by decide +kernel
theorem dX2_takeLine_39 : decode cX2_takeLine 39 = .ok (.bipush 7, 2) := by decide +kernel
theorem dX2_takeLine_41 : decode cX2_takeLine 41 = .ok (.if_icmp .ne 11, 3) := by decide +kernel
theorem dX2_takeLine_44 : decode cX2_takeLine 44 = .ok (.aload_n 0, 1) := by decide +kernel
theorem dX2_takeLine_45 : decode cX2_takeLine 45 = .ok (.invokevirtual 62, 3) := by decide +kernel
theorem dX2_takeLine_48 : decode cX2_takeLine 48 = .ok (.istore_n 2, 1) := by decide +kernel
theorem dX2_takeLine_49 : decode cX2_takeLine 49 = .ok (.goto 9, 3) := by decide +kernel
theorem dX2_takeLine_52 : decode cX2_takeLine 52 = .ok (.aload_n 0, 1) := by decide +kernel
theorem dX2_takeLine_53 : decode cX2_takeLine 53 = .ok (.iload_n 1, 1) := by decide +kernel
theorem dX2_takeLine_54 : decode cX2_takeLine 54 = .ok (.invokevirtual 65, 3) := by decide +kernel
theorem dX2_takeLine_57 : decode cX2_takeLine 57 = .ok (.istore_n 2, 1) := by decide +kernel
theorem dX2_takeLine_58 : decode cX2_takeLine 58 = .ok (.iload_n 2, 1) := by decide +kernel
theorem dX2_takeLine_59 : decode cX2_takeLine 59 = .ok (.ifCond .eq 11, 3) := by decide +kernel
theorem dX2_takeLine_62 : decode cX2_takeLine 62 = .ok (.aload_n 0, 1) := by decide +kernel
theorem dX2_takeLine_63 : decode cX2_takeLine 63 = .ok (.getfield 45, 3) := by decide +kernel
theorem dX2_takeLine_66 : decode cX2_takeLine 66 = .ok (.iconst 3, 1) := by decide +kernel
theorem dX2_takeLine_67 : decode cX2_takeLine 67 = .ok (.if_icmp .eq 5, 3) := by decide +kernel
theorem dX2_takeLine_70 : decode cX2_takeLine 70 = .ok (.iconst 0, 1) := by decide +kernel
theorem dX2_takeLine_71 : decode cX2_takeLine 71 = .ok (.ireturn, 1) := by decide +kernel
theorem dX2_takeLine_72 : decode cX2_takeLine 72 = .ok (.aload_n 0, 1) := by decide +kernel
theorem dX2_takeLine_73 : decode cX2_takeLine 73 = .ok (.invokevirtual 42, 3) := by decide +kernel
theorem dX2_takeLine_76 : decode cX2_takeLine 76 = .ok (.iconst 1, 1) := by decide +kernel
theorem dX2_takeLine_77 : decode cX2_takeLine 77 = .ok (.ireturn, 1) := by decide +kernel
theorem dX2_takeNumbers_0 : decode cX2_takeNumbers 0 = .ok (.aload_n 0, 1) := by decide +kernel
theorem dX2_takeNumbers_1 : decode cX2_takeNumbers 1 = .ok (.invokevirtual 42, 3) := by decide +kernel
theorem dX2_takeNumbers_4 : decode cX2_takeNumbers 4 = .ok (.iconst 0, 1) := by decide +kernel
theorem dX2_takeNumbers_5 : decode cX2_takeNumbers 5 = .ok (.istore_n 2, 1) := by decide +kernel
theorem dX2_takeNumbers_6 : decode cX2_takeNumbers 6 = .ok (.iload_n 2, 1) := by decide +kernel
theorem dX2_takeNumbers_7 : decode cX2_takeNumbers 7 = .ok (.getstatic 69, 3) := by decide +kernel
theorem dX2_takeNumbers_10 : decode cX2_takeNumbers 10 = .ok (.iload_n 1, 1) := by decide +kernel
theorem dX2_takeNumbers_11 : decode cX2_takeNumbers 11 = .ok (.iaload, 1) := by decide +kernel
theorem dX2_takeNumbers_12 : decode cX2_takeNumbers 12 = .ok (.if_icmp .ge 67, 3) := by decide +kernel
theorem dX2_takeNumbers_15 : decode cX2_takeNumbers 15 = .ok (.aload_n 0, 1) := by decide +kernel
theorem dX2_takeNumbers_16 : decode cX2_takeNumbers 16 = .ok (.getfield 45, 3) := by decide +kernel
theorem dX2_takeNumbers_19 : decode cX2_takeNumbers 19 = .ok (.iconst 2, 1) := by decide +kernel
theorem dX2_takeNumbers_20 : decode cX2_takeNumbers 20 = .ok (.if_icmp .eq 5, 3) := by decide +kernel
theorem dX2_takeNumbers_23 : decode cX2_takeNumbers 23 = .ok (.iconst 0, 1) := by decide +kernel
theorem dX2_takeNumbers_24 : decode cX2_takeNumbers 24 = .ok (.ireturn, 1) := by decide +kernel
theorem dX2_takeNumbers_25 : decode cX2_takeNumbers 25 = .ok (.getstatic 73, 3) := by decide +kernel
theorem dX2_takeNumbers_28 : decode cX2_takeNumbers 28 = .ok (.iload_n 1, 1) := by decide +kernel
theorem dX2_takeNumbers_29 : decode cX2_takeNumbers 29 = .ok (.iaload, 1) := by decide +kernel
theorem dX2_takeNumbers_30 : decode cX2_takeNumbers 30 = .ok (.iload_n 2, 1) := by decide +kernel
theorem dX2_takeNumbers_31 : decode cX2_takeNumbers 31 = .ok (.iadd, 1) := by decide +kernel
theorem dX2_takeNumbers_32 : decode cX2_takeNumbers 32 = .ok (.istore_n 3, 1) := by decide +kernel
theorem dX2_takeNumbers_33 : decode cX2_takeNumbers 33 = .ok (.iload_n 3, 1) := by decide +kernel
theorem dX2_takeNumbers_34 : decode cX2_takeNumbers 34 = .ok (.aload_n 0, 1) := by decide +kernel
theorem dX2_takeNumbers_35 : decode cX2_takeNumbers 35 = .ok (.getfield 76, 3) := by decide +kernel
theorem dX2_takeNumbers_38 : decode cX2_takeNumbers 38 = .ok (.invokestatic 79, 3) := by decide +kernel
theorem dX2_takeNumbers_41 : decode cX2_takeNumbers 41 = .ok (.ifCond .eq 19, 3) := by decide +kernel
theorem dX2_takeNumbers_44 : decode cX2_takeNumbers 44 = .ok (.aload_n 0, 1) := by decide +kernel
theorem dX2_takeNumbers_45 : decode cX2_takeNumbers 45 = .ok (.getfield 12, 3) := by decide +kernel
theorem dX2_takeNumbers_48 : decode cX2_takeNumbers 48 = .ok (.getfield 83, 3) := by decide +kernel
theorem dX2_takeNumbers_51 : decode cX2_takeNumbers 51 = .ok (.iload_n 3, 1) := by decide +kernel
theorem dX2_takeNumbers_52 : decode cX2_takeNumbers 52 = .ok (.aload_n 0, 1) := by decide +kernel
theorem dX2_takeNumbers_53 : decode cX2_takeNumbers 53 = .ok (.getfield 76, 3) := by decide +kernel
theorem dX2_takeNumbers_56 : decode cX2_takeNumbers 56 = .ok (.iastore, 1) := by decide +kernel
theorem dX2_takeNumbers_57 : decode cX2_takeNumbers 57 = .ok (.goto 12, 3) := by decide +kernel
theorem dX2_takeNumbers_60 : decode cX2_takeNumbers 60 = .ok (.aload_n 0, 1) := by decide +kernel
theorem dX2_takeNumbers_61 : decode cX2_takeNumbers 61 = .ok (.iconst 2, 1) := by decide +kernel
theorem dX2_takeNumbers_62 : decode cX2_takeNumbers 62 = .ok (.aload_n 0, 1) := by decide +kernel
theorem dX2_takeNumbers_63 : decode cX2_takeNumbers 63 = .ok (.getfield 52, 3) := by decide +kernel
theorem dX2_takeNumbers_66 : decode cX2_takeNumbers 66 = .ok (.invokevirtual 86, 3) := by decide +kernel
theorem dX2_takeNumbers_69 : decode cX2_takeNumbers 69 = .ok (.aload_n 0, 1) := by decide +kernel
theorem dX2_takeNumbers_70 : decode cX2_takeNumbers 70 = .ok (.invokevirtual 42, 3) := by decide +kernel
theorem dX2_takeNumbers_73 : decode cX2_takeNumbers 73 = .ok (.iinc 2 1, 3) := by decide +kernel
theorem dX2_takeNumbers_76 : decode cX2_takeNumbers 76 = .ok (.goto (-70), 3) := by decide +kernel
theorem dX2_takeNumbers_79 : decode cX2_takeNumbers 79 = .ok (.iconst 1, 1) := by decide +kernel
theorem dX2_takeNumbers_80 : decode cX2_takeNumbers 80 = .ok (.ireturn, 1) := by decide +kernel
theorem dX2_takeWish_0 : decode cX2_takeWish 0 = .ok (.aload_n 0, 1) := by decide +kernel
theorem dX2_takeWish_1 : decode cX2_takeWish 1 = .ok (.invokevirtual 42, 3) := by decide +kernel
theorem dX2_takeWish_4 : decode cX2_takeWish 4 = .ok (.aload_n 0, 1) := by decide +kernel
theorem dX2_takeWish_5 : decode cX2_takeWish 5 = .ok (.getfield 45, 3) := by decide +kernel
theorem dX2_takeWish_8 : decode cX2_takeWish 8 = .ok (.iconst 1, 1) := by decide +kernel
theorem dX2_takeWish_9 : decode cX2_takeWish 9 = .ok (.if_icmp .ne 10, 3) := by decide +kernel
theorem dX2_takeWish_12 : decode cX2_takeWish 12 = .ok (.aload_n 0, 1) := by decide +kernel
theorem dX2_takeWish_13 : decode cX2_takeWish 13 = .ok (.invokevirtual 90, 3) := by decide +kernel
theorem dX2_takeWish_16 : decode cX2_takeWish 16 = .ok (.goto 4, 3) := by decide +kernel
theorem dX2_takeWish_19 : decode cX2_takeWish 19 = .ok (.iconst (-1), 1) := by decide +kernel
theorem dX2_takeWish_20 : decode cX2_takeWish 20 = .ok (.istore_n 1, 1) := by decide +kernel
theorem dX2_takeWish_21 : decode cX2_takeWish 21 = .ok (.iload_n 1, 1) := by decide +kernel
theorem dX2_takeWish_22 : decode cX2_takeWish 22 = .ok (.iconst (-1), 1) := by decide +kernel
theorem dX2_takeWish_23 : decode cX2_takeWish 23 = .ok (.if_icmp .ne 5, 3) := by decide +kernel
theorem dX2_takeWish_26 : decode cX2_takeWish 26 = .ok (.iconst 0, 1) := by decide +kernel
theorem dX2_takeWish_27 : decode cX2_takeWish 27 = .ok (.ireturn, 1) := by decide +kernel
theorem dX2_takeWish_28 : decode cX2_takeWish 28 = .ok (.aload_n 0, 1) := by decide +kernel
theorem dX2_takeWish_29 : decode cX2_takeWish 29 = .ok (.getfield 12, 3) := by decide +kernel
theorem dX2_takeWish_32 : decode cX2_takeWish 32 = .ok (.getfield 83, 3) := by decide +kernel
theorem dX2_takeWish_35 : decode cX2_takeWish 35 = .ok (.bipush 8, 2) := by decide +kernel
theorem dX2_takeWish_37 : decode cX2_takeWish 37 = .ok (.iload_n 1, 1) := by decide +kernel
theorem dX2_takeWish_38 : decode cX2_takeWish 38 = .ok (.iastore, 1) := by decide +kernel
theorem dX2_takeWish_39 : decode cX2_takeWish 39 = .ok (.aload_n 0, 1) := by decide +kernel
theorem dX2_takeWish_40 : decode cX2_takeWish 40 = .ok (.invokevirtual 42, 3) := by decide +kernel
theorem dX2_takeWish_43 : decode cX2_takeWish 43 = .ok (.iconst 1, 1) := by decide +kernel
theorem dX2_takeWish_44 : decode cX2_takeWish 44 = .ok (.ireturn, 1) := by decide +kernel
theorem dX2_takeBad_0 : decode cX2_takeBad 0 = .ok (.aload_n 0, 1) := by decide +kernel
theorem dX2_takeBad_1 : decode cX2_takeBad 1 = .ok (.getfield 12, 3) := by decide +kernel
theorem dX2_takeBad_4 : decode cX2_takeBad 4 = .ok (.getfield 93, 3) := by decide +kernel
theorem dX2_takeBad_7 : decode cX2_takeBad 7 = .ok (.bipush 12, 2) := by decide +kernel
theorem dX2_takeBad_9 : decode cX2_takeBad 9 = .ok (.if_icmp .lt 12, 3) := by decide +kernel
theorem dX2_takeBad_12 : decode cX2_takeBad 12 = .ok (.aload_n 0, 1) := by decide +kernel
theorem dX2_takeBad_13 : decode cX2_takeBad 13 = .ok (.iconst 4, 1) := by decide +kernel
theorem dX2_takeBad_14 : decode cX2_takeBad 14 = .ok (.aload_n 0, 1) := by decide +kernel
theorem dX2_takeBad_15 : decode cX2_takeBad 15 = .ok (.getfield 52, 3) := by decide +kernel
theorem dX2_takeBad_18 : decode cX2_takeBad 18 = .ok (.invokevirtual 86, 3) := by decide +kernel
theorem dX2_takeBad_21 : decode cX2_takeBad 21 = .ok (.aload_n 0, 1) := by decide +kernel
theorem dX2_takeBad_22 : decode cX2_takeBad 22 = .ok (.invokevirtual 42, 3) := by decide +kernel
theorem dX2_takeBad_25 : decode cX2_takeBad 25 = .ok (.aload_n 0, 1) := by decide +kernel
theorem dX2_takeBad_26 : decode cX2_takeBad 26 = .ok (.getfield 45, 3) := by decide +kernel
theorem dX2_takeBad_29 : decode cX2_takeBad 29 = .ok (.iconst 2, 1) := by decide +kernel
theorem dX2_takeBad_30 : decode cX2_takeBad 30 = .ok (.if_icmp .eq 5, 3) := by decide +kernel
theorem dX2_takeBad_33 : decode cX2_takeBad 33 = .ok (.iconst 0, 1) := by decide +kernel
theorem dX2_takeBad_34 : decode cX2_takeBad 34 = .ok (.ireturn, 1) := by decide +kernel
theorem dX2_takeBad_35 : decode cX2_takeBad 35 = .ok (.aload_n 0, 1) := by decide +kernel
theorem dX2_takeBad_36 : decode cX2_takeBad 36 = .ok (.getfield 76, 3) := by decide +kernel
theorem dX2_takeBad_39 : decode cX2_takeBad 39 = .ok (.istore_n 1, 1) := by decide +kernel
theorem dX2_takeBad_40 : decode cX2_takeBad 40 = .ok (.aload_n 0, 1) := by decide +kernel
theorem dX2_takeBad_41 : decode cX2_takeBad 41 = .ok (.getfield 52, 3) := by decide +kernel
theorem dX2_takeBad_44 : decode cX2_takeBad 44 = .ok (.istore_n 2, 1) := by decide +kernel
theorem dX2_takeBad_45 : decode cX2_takeBad 45 = .ok (.aload_n 0, 1) := by decide +kernel
theorem dX2_takeBad_46 : decode cX2_takeBad 46 = .ok (.invokevirtual 42, 3) := by decide +kernel
theorem dX2_takeBad_49 : decode cX2_takeBad 49 = .ok (.aload_n 0, 1) := by decide +kernel
theorem dX2_takeBad_50 : decode cX2_takeBad 50 = .ok (.getfield 45, 3) := by decide +kernel
theorem dX2_takeBad_53 : decode cX2_takeBad 53 = .ok (.iconst 2, 1) := by decide +kernel
theorem dX2_takeBad_54 : decode cX2_takeBad 54 = .ok (.if_icmp .eq 5, 3) := by decide +kernel
theorem dX2_takeBad_57 : decode cX2_takeBad 57 = .ok (.iconst 0, 1) := by decide +kernel
theorem dX2_takeBad_58 : decode cX2_takeBad 58 = .ok (.ireturn, 1) := by decide +kernel
theorem dX2_takeBad_59 : decode cX2_takeBad 59 = .ok (.aload_n 0, 1) := by decide +kernel
theorem dX2_takeBad_60 : decode cX2_takeBad 60 = .ok (.getfield 76, 3) := by decide +kernel
theorem dX2_takeBad_63 : decode cX2_takeBad 63 = .ok (.istore_n 3, 1) := by decide +kernel
theorem dX2_takeBad_64 : decode cX2_takeBad 64 = .ok (.aload_n 0, 1) := by decide +kernel
theorem dX2_takeBad_65 : decode cX2_takeBad 65 = .ok (.getfield 52, 3) := by decide +kernel
theorem dX2_takeBad_68 : decode cX2_takeBad 68 = .ok (.istore 4, 2) := by decide +kernel
theorem dX2_takeBad_70 : decode cX2_takeBad 70 = .ok (.aload_n 0, 1) := by decide +kernel
theorem dX2_takeBad_71 : decode cX2_takeBad 71 = .ok (.invokevirtual 42, 3) := by decide +kernel
theorem dX2_takeBad_74 : decode cX2_takeBad 74 = .ok (.aload_n 0, 1) := by decide +kernel
theorem dX2_takeBad_75 : decode cX2_takeBad 75 = .ok (.getfield 45, 3) := by decide +kernel
theorem dX2_takeBad_78 : decode cX2_takeBad 78 = .ok (.iconst 2, 1) := by decide +kernel
theorem dX2_takeBad_79 : decode cX2_takeBad 79 = .ok (.if_icmp .eq 5, 3) := by decide +kernel
theorem dX2_takeBad_82 : decode cX2_takeBad 82 = .ok (.iconst 0, 1) := by decide +kernel
theorem dX2_takeBad_83 : decode cX2_takeBad 83 = .ok (.ireturn, 1) := by decide +kernel
theorem dX2_takeBad_84 : decode cX2_takeBad 84 = .ok (.aload_n 0, 1) := by decide +kernel
theorem dX2_takeBad_85 : decode cX2_takeBad 85 = .ok (.iload_n 1, 1) := by decide +kernel
theorem dX2_takeBad_86 : decode cX2_takeBad 86 = .ok (.iload_n 2, 1) := by decide +kernel
theorem dX2_takeBad_87 : decode cX2_takeBad 87 = .ok (.iload_n 3, 1) := by decide +kernel
theorem dX2_takeBad_88 : decode cX2_takeBad 88 = .ok (.iload 4, 2) := by decide +kernel
theorem dX2_takeBad_90 : decode cX2_takeBad 90 = .ok (.invokevirtual 96, 3) := by decide +kernel
theorem dX2_takeBad_93 : decode cX2_takeBad 93 = .ok (.aload_n 0, 1) := by decide +kernel
theorem dX2_takeBad_94 : decode cX2_takeBad 94 = .ok (.getfield 32, 3) := by decide +kernel
theorem dX2_takeBad_97 : decode cX2_takeBad 97 = .ok (.ifCond .ne 16, 3) := by decide +kernel
theorem dX2_takeBad_100 : decode cX2_takeBad 100 = .ok (.aload_n 0, 1) := by decide +kernel
theorem dX2_takeBad_101 : decode cX2_takeBad 101 = .ok (.getfield 12, 3) := by decide +kernel
theorem dX2_takeBad_104 : decode cX2_takeBad 104 = .ok (.iload_n 1, 1) := by decide +kernel
theorem dX2_takeBad_105 : decode cX2_takeBad 105 = .ok (.iload_n 3, 1) := by decide +kernel
theorem dX2_takeBad_106 : decode cX2_takeBad 106 = .ok (.aload_n 0, 1) := by decide +kernel
theorem dX2_takeBad_107 : decode cX2_takeBad 107 = .ok (.getfield 76, 3) := by decide +kernel
theorem dX2_takeBad_110 : decode cX2_takeBad 110 = .ok (.invokevirtual 100, 3) := by decide +kernel
theorem dX2_takeBad_113 : decode cX2_takeBad 113 = .ok (.aload_n 0, 1) := by decide +kernel
theorem dX2_takeBad_114 : decode cX2_takeBad 114 = .ok (.invokevirtual 42, 3) := by decide +kernel
theorem dX2_takeBad_117 : decode cX2_takeBad 117 = .ok (.iconst 1, 1) := by decide +kernel
theorem dX2_takeBad_118 : decode cX2_takeBad 118 = .ok (.ireturn, 1) := by decide +kernel
theorem dX2_noteBad_0 : decode cX2_noteBad 0 = .ok (.iload_n 1, 1) := by decide +kernel
theorem dX2_noteBad_1 : decode cX2_noteBad 1 = .ok (.sipush 512, 3) := by decide +kernel
theorem dX2_noteBad_4 : decode cX2_noteBad 4 = .ok (.if_icmp .lt 9, 3) := by decide +kernel
theorem dX2_noteBad_7 : decode cX2_noteBad 7 = .ok (.aload_n 0, 1) := by decide +kernel
theorem dX2_noteBad_8 : decode cX2_noteBad 8 = .ok (.iconst 2, 1) := by decide +kernel
theorem dX2_noteBad_9 : decode cX2_noteBad 9 = .ok (.iload_n 2, 1) := by decide +kernel
theorem dX2_noteBad_10 : decode cX2_noteBad 10 = .ok (.invokevirtual 86, 3) := by decide +kernel
theorem dX2_noteBad_13 : decode cX2_noteBad 13 = .ok (.aload_n 0, 1) := by decide +kernel
theorem dX2_noteBad_14 : decode cX2_noteBad 14 = .ok (.getfield 12, 3) := by decide +kernel
theorem dX2_noteBad_17 : decode cX2_noteBad 17 = .ok (.iload_n 1, 1) := by decide +kernel
theorem dX2_noteBad_18 : decode cX2_noteBad 18 = .ok (.iload_n 3, 1) := by decide +kernel
theorem dX2_noteBad_19 : decode cX2_noteBad 19 = .ok (.invokevirtual 104, 3) := by decide +kernel
theorem dX2_noteBad_22 : decode cX2_noteBad 22 = .ok (.iconst (-1), 1) := by decide +kernel
theorem dX2_noteBad_23 : decode cX2_noteBad 23 = .ok (.if_icmp .eq 9, 3) := by decide +kernel
theorem dX2_noteBad_26 : decode cX2_noteBad 26 = .ok (.aload_n 0, 1) := by decide +kernel
theorem dX2_noteBad_27 : decode cX2_noteBad 27 = .ok (.iconst 3, 1) := by decide +kernel
theorem dX2_noteBad_28 : decode cX2_noteBad 28 = .ok (.iload_n 2, 1) := by decide +kernel
theorem dX2_noteBad_29 : decode cX2_noteBad 29 = .ok (.invokevirtual 86, 3) := by decide +kernel
theorem dX2_noteBad_32 : decode cX2_noteBad 32 = .ok (.iload_n 3, 1) := by decide +kernel
theorem dX2_noteBad_33 : decode cX2_noteBad 33 = .ok (.sipush 256, 3) := by decide +kernel
theorem dX2_noteBad_36 : decode cX2_noteBad 36 = .ok (.if_icmp .lt 10, 3) := by decide +kernel
theorem dX2_noteBad_39 : decode cX2_noteBad 39 = .ok (.aload_n 0, 1) := by decide +kernel
theorem dX2_noteBad_40 : decode cX2_noteBad 40 = .ok (.iconst 2, 1) := by decide +kernel
theorem dX2_noteBad_41 : decode cX2_noteBad 41 = .ok (.iload 4, 2) := by decide +kernel
theorem dX2_noteBad_43 : decode cX2_noteBad 43 = .ok (.invokevirtual 86, 3) := by decide +kernel
theorem dX2_noteBad_46 : decode cX2_noteBad 46 = .ok (.aload_n 0, 1) := by decide +kernel
theorem dX2_noteBad_47 : decode cX2_noteBad 47 = .ok (.getfield 76, 3) := by decide +kernel
theorem dX2_noteBad_50 : decode cX2_noteBad 50 = .ok (.iconst 1, 1) := by decide +kernel
theorem dX2_noteBad_51 : decode cX2_noteBad 51 = .ok (.if_icmp .le 12, 3) := by decide +kernel
theorem dX2_noteBad_54 : decode cX2_noteBad 54 = .ok (.aload_n 0, 1) := by decide +kernel
theorem dX2_noteBad_55 : decode cX2_noteBad 55 = .ok (.iconst 2, 1) := by decide +kernel
theorem dX2_noteBad_56 : decode cX2_noteBad 56 = .ok (.aload_n 0, 1) := by decide +kernel
theorem dX2_noteBad_57 : decode cX2_noteBad 57 = .ok (.getfield 52, 3) := by decide +kernel
theorem dX2_noteBad_60 : decode cX2_noteBad 60 = .ok (.invokevirtual 86, 3) := by decide +kernel
theorem dX2_noteBad_63 : decode cX2_noteBad 63 = .ok (.return_, 1) := by decide +kernel
theorem dX2_note_0 : decode cX2_note 0 = .ok (.aload_n 0, 1) := by decide +kernel
theorem dX2_note_1 : decode cX2_note 1 = .ok (.getfield 32, 3) := by decide +kernel
theorem dX2_note_4 : decode cX2_note 4 = .ok (.ifCond .ne 13, 3) := by decide +kernel
theorem dX2_note_7 : decode cX2_note 7 = .ok (.aload_n 0, 1) := by decide +kernel
theorem dX2_note_8 : decode cX2_note 8 = .ok (.iload_n 1, 1) := by decide +kernel
theorem dX2_note_9 : decode cX2_note 9 = .ok (.putfield 32, 3) := by decide +kernel
theorem dX2_note_12 : decode cX2_note 12 = .ok (.aload_n 0, 1) := by decide +kernel
theorem dX2_note_13 : decode cX2_note 13 = .ok (.iload_n 2, 1) := by decide +kernel
theorem dX2_note_14 : decode cX2_note 14 = .ok (.putfield 36, 3) := by decide +kernel
theorem dX2_note_17 : decode cX2_note 17 = .ok (.return_, 1) := by decide +kernel
theorem dX2_next_0 : decode cX2_next 0 = .ok (.aload_n 0, 1) := by decide +kernel
theorem dX2_next_1 : decode cX2_next 1 = .ok (.aload_n 0, 1) := by decide +kernel
theorem dX2_next_2 : decode cX2_next 2 = .ok (.getfield 39, 3) := by decide +kernel
theorem dX2_next_5 : decode cX2_next 5 = .ok (.putfield 52, 3) := by decide +kernel
theorem dX2_next_8 : decode cX2_next 8 = .ok (.aload_n 0, 1) := by decide +kernel
theorem dX2_next_9 : decode cX2_next 9 = .ok (.getfield 52, 3) := by decide +kernel
theorem dX2_next_12 : decode cX2_next 12 = .ok (.aload_n 0, 1) := by decide +kernel
theorem dX2_next_13 : decode cX2_next 13 = .ok (.getfield 21, 3) := by decide +kernel
theorem dX2_next_16 : decode cX2_next 16 = .ok (.getfield 108, 3) := by decide +kernel
theorem dX2_next_19 : decode cX2_next 19 = .ok (.if_icmp .ge 34, 3) := by decide +kernel
theorem dX2_next_22 : decode cX2_next 22 = .ok (.aload_n 0, 1) := by decide +kernel
theorem dX2_next_23 : decode cX2_next 23 = .ok (.getfield 21, 3) := by decide +kernel
theorem dX2_next_26 : decode cX2_next 26 = .ok (.getfield 111, 3) := by decide +kernel
theorem dX2_next_29 : decode cX2_next 29 = .ok (.aload_n 0, 1) := by decide +kernel
theorem dX2_next_30 : decode cX2_next 30 = .ok (.getfield 52, 3) := by decide +kernel
theorem dX2_next_33 : decode cX2_next 33 = .ok (.baload, 1) := by decide +kernel
theorem dX2_next_34 : decode cX2_next 34 = .ok (.invokestatic 115, 3) := by decide +kernel
theorem dX2_next_37 : decode cX2_next 37 = .ok (.ifCond .eq 16, 3) := by decide +kernel
theorem dX2_next_40 : decode cX2_next 40 = .ok (.aload_n 0, 1) := by decide +kernel
theorem dX2_next_41 : decode cX2_next 41 = .ok (.dup, 1) := by decide +kernel
theorem dX2_next_42 : decode cX2_next 42 = .ok (.getfield 52, 3) := by decide +kernel
theorem dX2_next_45 : decode cX2_next 45 = .ok (.iconst 1, 1) := by decide +kernel
theorem dX2_next_46 : decode cX2_next 46 = .ok (.iadd, 1) := by decide +kernel
theorem dX2_next_47 : decode cX2_next 47 = .ok (.putfield 52, 3) := by decide +kernel
theorem dX2_next_50 : decode cX2_next 50 = .ok (.goto (-42), 3) := by decide +kernel
theorem dX2_next_53 : decode cX2_next 53 = .ok (.aload_n 0, 1) := by decide +kernel
theorem dX2_next_54 : decode cX2_next 54 = .ok (.aload_n 0, 1) := by decide +kernel
theorem dX2_next_55 : decode cX2_next 55 = .ok (.getfield 52, 3) := by decide +kernel
theorem dX2_next_58 : decode cX2_next 58 = .ok (.putfield 39, 3) := by decide +kernel
theorem dX2_next_61 : decode cX2_next 61 = .ok (.aload_n 0, 1) := by decide +kernel
theorem dX2_next_62 : decode cX2_next 62 = .ok (.getfield 52, 3) := by decide +kernel
theorem dX2_next_65 : decode cX2_next 65 = .ok (.aload_n 0, 1) := by decide +kernel
theorem dX2_next_66 : decode cX2_next 66 = .ok (.getfield 21, 3) := by decide +kernel
theorem dX2_next_69 : decode cX2_next 69 = .ok (.getfield 108, 3) := by decide +kernel
theorem dX2_next_72 : decode cX2_next 72 = .ok (.if_icmp .lt 11, 3) := by decide +kernel
theorem dX2_next_75 : decode cX2_next 75 = .ok (.aload_n 0, 1) := by decide +kernel
theorem dX2_next_76 : decode cX2_next 76 = .ok (.iconst 0, 1) := by decide +kernel
theorem dX2_next_77 : decode cX2_next 77 = .ok (.putfield 45, 3) := by decide +kernel
theorem dX2_next_80 : decode cX2_next 80 = .ok (.goto 89, 3) := by decide +kernel
theorem dX2_next_83 : decode cX2_next 83 = .ok (.aload_n 0, 1) := by decide +kernel
theorem dX2_next_84 : decode cX2_next 84 = .ok (.getfield 21, 3) := by decide +kernel
theorem dX2_next_87 : decode cX2_next 87 = .ok (.getfield 111, 3) := by decide +kernel
theorem dX2_next_90 : decode cX2_next 90 = .ok (.aload_n 0, 1) := by decide +kernel
theorem dX2_next_91 : decode cX2_next 91 = .ok (.getfield 52, 3) := by decide +kernel
theorem dX2_next_94 : decode cX2_next 94 = .ok (.baload, 1) := by decide +kernel
theorem dX2_next_95 : decode cX2_next 95 = .ok (.invokestatic 118, 3) := by decide +kernel
theorem dX2_next_98 : decode cX2_next 98 = .ok (.ifCond .eq 10, 3) := by decide +kernel
theorem dX2_next_101 : decode cX2_next 101 = .ok (.aload_n 0, 1) := by decide +kernel
theorem dX2_next_102 : decode cX2_next 102 = .ok (.invokevirtual 121, 3) := by decide +kernel
theorem dX2_next_105 : decode cX2_next 105 = .ok (.goto 64, 3) := by decide +kernel
theorem dX2_next_108 : decode cX2_next 108 = .ok (.aload_n 0, 1) := by decide +kernel
theorem dX2_next_109 : decode cX2_next 109 = .ok (.getfield 21, 3) := by decide +kernel
theorem dX2_next_112 : decode cX2_next 112 = .ok (.getfield 111, 3) := by decide +kernel
theorem dX2_next_115 : decode cX2_next 115 = .ok (.aload_n 0, 1) := by decide +kernel
theorem dX2_next_116 : decode cX2_next 116 = .ok (.getfield 52, 3) := by decide +kernel
theorem dX2_next_119 : decode cX2_next 119 = .ok (.baload, 1) := by decide +kernel
theorem dX2_next_120 : decode cX2_next 120 = .ok (.invokestatic 124, 3) := by decide +kernel
theorem dX2_next_123 : decode cX2_next 123 = .ok (.ifCond .eq 10, 3) := by decide +kernel
theorem dX2_next_126 : decode cX2_next 126 = .ok (.aload_n 0, 1) := by decide +kernel
theorem dX2_next_127 : decode cX2_next 127 = .ok (.invokevirtual 127, 3) := by decide +kernel
theorem dX2_next_130 : decode cX2_next 130 = .ok (.goto 39, 3) := by decide +kernel
theorem dX2_next_133 : decode cX2_next 133 = .ok (.aload_n 0, 1) := by decide +kernel
theorem dX2_next_134 : decode cX2_next 134 = .ok (.aload_n 0, 1) := by decide +kernel
theorem dX2_next_135 : decode cX2_next 135 = .ok (.getfield 21, 3) := by decide +kernel
theorem dX2_next_138 : decode cX2_next 138 = .ok (.getfield 111, 3) := by decide +kernel
theorem dX2_next_141 : decode cX2_next 141 = .ok (.aload_n 0, 1) := by decide +kernel
theorem dX2_next_142 : decode cX2_next 142 = .ok (.getfield 52, 3) := by decide +kernel
theorem dX2_next_145 : decode cX2_next 145 = .ok (.baload, 1) := by decide +kernel
theorem dX2_next_146 : decode cX2_next 146 = .ok (.bipush 59, 2) := by decide +kernel
theorem dX2_next_148 : decode cX2_next 148 = .ok (.if_icmp .ne 7, 3) := by decide +kernel
theorem dX2_next_151 : decode cX2_next 151 = .ok (.iconst 3, 1) := by decide +kernel
theorem dX2_next_152 : decode cX2_next 152 = .ok (.goto 4, 3) := by decide +kernel
theorem dX2_next_155 : decode cX2_next 155 = .ok (.iconst 4, 1) := by decide +kernel
theorem dX2_next_156 : decode cX2_next 156 = .ok (.putfield 45, 3) := by decide +kernel
theorem dX2_next_159 : decode cX2_next 159 = .ok (.aload_n 0, 1) := by decide +kernel
theorem dX2_next_160 : decode cX2_next 160 = .ok (.aload_n 0, 1) := by decide +kernel
theorem dX2_next_161 : decode cX2_next 161 = .ok (.getfield 52, 3) := by decide +kernel
theorem dX2_next_164 : decode cX2_next 164 = .ok (.iconst 1, 1) := by decide +kernel
theorem dX2_next_165 : decode cX2_next 165 = .ok (.iadd, 1) := by decide +kernel
theorem dX2_next_166 : decode cX2_next 166 = .ok (.putfield 39, 3) := by decide +kernel
theorem dX2_next_169 : decode cX2_next 169 = .ok (.return_, 1) := by decide +kernel
theorem dX2_takeLetters_0 : decode cX2_takeLetters 0 = .ok (.aload_n 0, 1) := by decide +kernel
theorem dX2_takeLetters_1 : decode cX2_takeLetters 1 = .ok (.getfield 39, 3) := by decide +kernel
theorem dX2_takeLetters_4 : decode cX2_takeLetters 4 = .ok (.aload_n 0, 1) := by decide +kernel
theorem dX2_takeLetters_5 : decode cX2_takeLetters 5 = .ok (.getfield 21, 3) := by decide +kernel
theorem dX2_takeLetters_8 : decode cX2_takeLetters 8 = .ok (.getfield 108, 3) := by decide +kernel
theorem dX2_takeLetters_11 : decode cX2_takeLetters 11 = .ok (.if_icmp .ge 34, 3) := by decide +kernel
theorem dX2_takeLetters_14 : decode cX2_takeLetters 14 = .ok (.aload_n 0, 1) := by decide +kernel
theorem dX2_takeLetters_15 : decode cX2_takeLetters 15 = .ok (.getfield 21, 3) := by decide +kernel
theorem dX2_takeLetters_18 : decode cX2_takeLetters 18 = .ok (.getfield 111, 3) := by decide +kernel
theorem dX2_takeLetters_21 : decode cX2_takeLetters 21 = .ok (.aload_n 0, 1) := by decide +kernel
theorem dX2_takeLetters_22 : decode cX2_takeLetters 22 = .ok (.getfield 39, 3) := by decide +kernel
theorem dX2_takeLetters_25 : decode cX2_takeLetters 25 = .ok (.baload, 1) := by decide +kernel
theorem dX2_takeLetters_26 : decode cX2_takeLetters 26 = .ok (.invokestatic 118, 3) := by decide +kernel
theorem dX2_takeLetters_29 : decode cX2_takeLetters 29 = .ok (.ifCond .eq 16, 3) := by decide +kernel
theorem dX2_takeLetters_32 : decode cX2_takeLetters 32 = .ok (.aload_n 0, 1) := by decide +kernel
theorem dX2_takeLetters_33 : decode cX2_takeLetters 33 = .ok (.dup, 1) := by decide +kernel
theorem dX2_takeLetters_34 : decode cX2_takeLetters 34 = .ok (.getfield 39, 3) := by decide +kernel
theorem dX2_takeLetters_37 : decode cX2_takeLetters 37 = .ok (.iconst 1, 1) := by decide +kernel
theorem dX2_takeLetters_38 : decode cX2_takeLetters 38 = .ok (.iadd, 1) := by decide +kernel
theorem dX2_takeLetters_39 : decode cX2_takeLetters 39 = .ok (.putfield 39, 3) := by decide +kernel
theorem dX2_takeLetters_42 : decode cX2_takeLetters 42 = .ok (.goto (-42), 3) := by decide +kernel
theorem dX2_takeLetters_45 : decode cX2_takeLetters 45 = .ok (.aload_n 0, 1) := by decide +kernel
theorem dX2_takeLetters_46 : decode cX2_takeLetters 46 = .ok (.aload_n 0, 1) := by decide +kernel
theorem dX2_takeLetters_47 : decode cX2_takeLetters 47 = .ok (.getfield 39, 3) := by decide +kernel
theorem dX2_takeLetters_50 : decode cX2_takeLetters 50 = .ok (.aload_n 0, 1) := by decide +kernel
theorem dX2_takeLetters_51 : decode cX2_takeLetters 51 = .ok (.getfield 52, 3) := by decide +kernel
theorem dX2_takeLetters_54 : decode cX2_takeLetters 54 = .ok (.isub, 1) := by decide +kernel
theorem dX2_takeLetters_55 : decode cX2_takeLetters 55 = .ok (.bipush 8, 2) := by decide +kernel
theorem dX2_takeLetters_57 : decode cX2_takeLetters 57 = .ok (.if_icmp .le 7, 3) := by decide +kernel
theorem dX2_takeLetters_60 : decode cX2_takeLetters 60 = .ok (.iconst 4, 1) := by decide +kernel
theorem dX2_takeLetters_61 : decode cX2_takeLetters 61 = .ok (.goto 4, 3) := by decide +kernel
theorem dX2_takeLetters_64 : decode cX2_takeLetters 64 = .ok (.iconst 1, 1) := by decide +kernel
theorem dX2_takeLetters_65 : decode cX2_takeLetters 65 = .ok (.putfield 45, 3) := by decide +kernel
theorem dX2_takeLetters_68 : decode cX2_takeLetters 68 = .ok (.return_, 1) := by decide +kernel
theorem dX2_takeDigits_0 : decode cX2_takeDigits 0 = .ok (.aload_n 0, 1) := by decide +kernel
theorem dX2_takeDigits_1 : decode cX2_takeDigits 1 = .ok (.iconst 0, 1) := by decide +kernel
theorem dX2_takeDigits_2 : decode cX2_takeDigits 2 = .ok (.putfield 76, 3) := by decide +kernel
theorem dX2_takeDigits_5 : decode cX2_takeDigits 5 = .ok (.aload_n 0, 1) := by decide +kernel
theorem dX2_takeDigits_6 : decode cX2_takeDigits 6 = .ok (.getfield 39, 3) := by decide +kernel
theorem dX2_takeDigits_9 : decode cX2_takeDigits 9 = .ok (.aload_n 0, 1) := by decide +kernel
theorem dX2_takeDigits_10 : decode cX2_takeDigits 10 = .ok (.getfield 21, 3) := by decide +kernel
theorem dX2_takeDigits_13 : decode cX2_takeDigits 13 = .ok (.getfield 108, 3) := by decide +kernel
theorem dX2_takeDigits_16 : decode cX2_takeDigits 16 = .ok (.if_icmp .ge 82, 3) := by decide +kernel
theorem dX2_takeDigits_19 : decode cX2_takeDigits 19 = .ok (.aload_n 0, 1) := by decide +kernel
theorem dX2_takeDigits_20 : decode cX2_takeDigits 20 = .ok (.getfield 21, 3) := by decide +kernel
theorem dX2_takeDigits_23 : decode cX2_takeDigits 23 = .ok (.getfield 111, 3) := by decide +kernel
theorem dX2_takeDigits_26 : decode cX2_takeDigits 26 = .ok (.aload_n 0, 1) := by decide +kernel
theorem dX2_takeDigits_27 : decode cX2_takeDigits 27 = .ok (.getfield 39, 3) := by decide +kernel
theorem dX2_takeDigits_30 : decode cX2_takeDigits 30 = .ok (.baload, 1) := by decide +kernel
theorem dX2_takeDigits_31 : decode cX2_takeDigits 31 = .ok (.invokestatic 124, 3) := by decide +kernel
theorem dX2_takeDigits_34 : decode cX2_takeDigits 34 = .ok (.ifCond .eq 64, 3) := by decide +kernel
theorem dX2_takeDigits_37 : decode cX2_takeDigits 37 = .ok (.aload_n 0, 1) := by decide +kernel
theorem dX2_takeDigits_38 : decode cX2_takeDigits 38 = .ok (.aload_n 0, 1) := by decide +kernel
theorem dX2_takeDigits_39 : decode cX2_takeDigits 39 = .ok (.getfield 39, 3) := by decide +kernel
theorem dX2_takeDigits_42 : decode cX2_takeDigits 42 = .ok (.aload_n 0, 1) := by decide +kernel
theorem dX2_takeDigits_43 : decode cX2_takeDigits 43 = .ok (.getfield 52, 3) := by decide +kernel
theorem dX2_takeDigits_46 : decode cX2_takeDigits 46 = .ok (.isub, 1) := by decide +kernel
theorem dX2_takeDigits_47 : decode cX2_takeDigits 47 = .ok (.bipush 6, 2) := by decide +kernel
theorem dX2_takeDigits_49 : decode cX2_takeDigits 49 = .ok (.if_icmp .ge 29, 3) := by decide +kernel
theorem dX2_takeDigits_52 : decode cX2_takeDigits 52 = .ok (.aload_n 0, 1) := by decide +kernel
theorem dX2_takeDigits_53 : decode cX2_takeDigits 53 = .ok (.getfield 76, 3) := by decide +kernel
theorem dX2_takeDigits_56 : decode cX2_takeDigits 56 = .ok (.bipush 10, 2) := by decide +kernel
theorem dX2_takeDigits_58 : decode cX2_takeDigits 58 = .ok (.imul, 1) := by decide +kernel
theorem dX2_takeDigits_59 : decode cX2_takeDigits 59 = .ok (.aload_n 0, 1) := by decide +kernel
theorem dX2_takeDigits_60 : decode cX2_takeDigits 60 = .ok (.getfield 21, 3) := by decide +kernel
theorem dX2_takeDigits_63 : decode cX2_takeDigits 63 = .ok (.getfield 111, 3) := by decide +kernel
theorem dX2_takeDigits_66 : decode cX2_takeDigits 66 = .ok (.aload_n 0, 1) := by decide +kernel
theorem dX2_takeDigits_67 : decode cX2_takeDigits 67 = .ok (.getfield 39, 3) := by decide +kernel
theorem dX2_takeDigits_70 : decode cX2_takeDigits 70 = .ok (.baload, 1) := by decide +kernel
theorem dX2_takeDigits_71 : decode cX2_takeDigits 71 = .ok (.iadd, 1) := by decide +kernel
theorem dX2_takeDigits_72 : decode cX2_takeDigits 72 = .ok (.bipush 48, 2) := by decide +kernel
theorem dX2_takeDigits_74 : decode cX2_takeDigits 74 = .ok (.isub, 1) := by decide +kernel
theorem dX2_takeDigits_75 : decode cX2_takeDigits 75 = .ok (.goto 7, 3) := by decide +kernel
theorem dX2_takeDigits_78 : decode cX2_takeDigits 78 = .ok (.aload_n 0, 1) := by decide +kernel
theorem dX2_takeDigits_79 : decode cX2_takeDigits 79 = .ok (.getfield 76, 3) := by decide +kernel
theorem dX2_takeDigits_82 : decode cX2_takeDigits 82 = .ok (.putfield 76, 3) := by decide +kernel
theorem dX2_takeDigits_85 : decode cX2_takeDigits 85 = .ok (.aload_n 0, 1) := by decide +kernel
theorem dX2_takeDigits_86 : decode cX2_takeDigits 86 = .ok (.dup, 1) := by decide +kernel
theorem dX2_takeDigits_87 : decode cX2_takeDigits 87 = .ok (.getfield 39, 3) := by decide +kernel
theorem dX2_takeDigits_90 : decode cX2_takeDigits 90 = .ok (.iconst 1, 1) := by decide +kernel
theorem dX2_takeDigits_91 : decode cX2_takeDigits 91 = .ok (.iadd, 1) := by decide +kernel
theorem dX2_takeDigits_92 : decode cX2_takeDigits 92 = .ok (.putfield 39, 3) := by decide +kernel
theorem dX2_takeDigits_95 : decode cX2_takeDigits 95 = .ok (.goto (-90), 3) := by decide +kernel
theorem dX2_takeDigits_98 : decode cX2_takeDigits 98 = .ok (.aload_n 0, 1) := by decide +kernel
theorem dX2_takeDigits_99 : decode cX2_takeDigits 99 = .ok (.aload_n 0, 1) := by decide +kernel
theorem dX2_takeDigits_100 : decode cX2_takeDigits 100 = .ok (.getfield 39, 3) := by decide +kernel
theorem dX2_takeDigits_103 : decode cX2_takeDigits 103 = .ok (.aload_n 0, 1) := by decide +kernel
theorem dX2_takeDigits_104 : decode cX2_takeDigits 104 = .ok (.getfield 52, 3) := by decide +kernel
theorem dX2_takeDigits_107 : decode cX2_takeDigits 107 = .ok (.isub, 1) := by decide +kernel
theorem dX2_takeDigits_108 : decode cX2_takeDigits 108 = .ok (.bipush 6, 2) := by decide +kernel
theorem dX2_takeDigits_110 : decode cX2_takeDigits 110 = .ok (.if_icmp .le 7, 3) := by decide +kernel
theorem dX2_takeDigits_113 : decode cX2_takeDigits 113 = .ok (.iconst 4, 1) := by decide +kernel
theorem dX2_takeDigits_114 : decode cX2_takeDigits 114 = .ok (.goto 4, 3) := by decide +kernel
theorem dX2_takeDigits_117 : decode cX2_takeDigits 117 = .ok (.iconst 2, 1) := by decide +kernel
theorem dX2_takeDigits_118 : decode cX2_takeDigits 118 = .ok (.putfield 45, 3) := by decide +kernel
theorem dX2_takeDigits_121 : decode cX2_takeDigits 121 = .ok (.return_, 1) := by decide +kernel
theorem dX2_lineTold_0 : decode cX2_lineTold 0 = .ok (.iconst 0, 1) := by decide +kernel
theorem dX2_lineTold_1 : decode cX2_lineTold 1 = .ok (.istore_n 1, 1) := by decide +kernel
theorem dX2_lineTold_2 : decode cX2_lineTold 2 = .ok (.iload_n 1, 1) := by decide +kernel
theorem dX2_lineTold_3 : decode cX2_lineTold 3 = .ok (.bipush 8, 2) := by decide +kernel
theorem dX2_lineTold_5 : decode cX2_lineTold 5 = .ok (.if_icmp .ge 22, 3) := by decide +kernel
theorem dX2_lineTold_8 : decode cX2_lineTold 8 = .ok (.aload_n 0, 1) := by decide +kernel
theorem dX2_lineTold_9 : decode cX2_lineTold 9 = .ok (.iload_n 1, 1) := by decide +kernel
theorem dX2_lineTold_10 : decode cX2_lineTold 10 = .ok (.invokestatic 130, 3) := by decide +kernel
theorem dX2_lineTold_13 : decode cX2_lineTold 13 = .ok (.invokevirtual 134, 3) := by decide +kernel
theorem dX2_lineTold_16 : decode cX2_lineTold 16 = .ok (.ifCond .eq 5, 3) := by decide +kernel
theorem dX2_lineTold_19 : decode cX2_lineTold 19 = .ok (.iload_n 1, 1) := by decide +kernel
theorem dX2_lineTold_20 : decode cX2_lineTold 20 = .ok (.ireturn, 1) := by decide +kernel
theorem dX2_lineTold_21 : decode cX2_lineTold 21 = .ok (.iinc 1 1, 3) := by decide +kernel
theorem dX2_lineTold_24 : decode cX2_lineTold 24 = .ok (.goto (-22), 3) := by decide +kernel
theorem dX2_lineTold_27 : decode cX2_lineTold 27 = .ok (.iconst (-1), 1) := by decide +kernel
theorem dX2_lineTold_28 : decode cX2_lineTold 28 = .ok (.ireturn, 1) := by decide +kernel
theorem dX2_wishTold_0 : decode cX2_wishTold 0 = .ok (.iconst 0, 1) := by decide +kernel
theorem dX2_wishTold_1 : decode cX2_wishTold 1 = .ok (.istore_n 1, 1) := by decide +kernel
theorem dX2_wishTold_2 : decode cX2_wishTold 2 = .ok (.iload_n 1, 1) := by decide +kernel
theorem dX2_wishTold_3 : decode cX2_wishTold 3 = .ok (.iconst 3, 1) := by decide +kernel
theorem dX2_wishTold_4 : decode cX2_wishTold 4 = .ok (.if_icmp .ge 22, 3) := by decide +kernel
theorem dX2_wishTold_7 : decode cX2_wishTold 7 = .ok (.aload_n 0, 1) := by decide +kernel
theorem dX2_wishTold_8 : decode cX2_wishTold 8 = .ok (.iload_n 1, 1) := by decide +kernel
theorem dX2_wishTold_9 : decode cX2_wishTold 9 = .ok (.invokestatic 138, 3) := by decide +kernel
theorem dX2_wishTold_12 : decode cX2_wishTold 12 = .ok (.invokevirtual 134, 3) := by decide +kernel
theorem dX2_wishTold_15 : decode cX2_wishTold 15 = .ok (.ifCond .eq 5, 3) := by decide +kernel
theorem dX2_wishTold_18 : decode cX2_wishTold 18 = .ok (.iload_n 1, 1) := by decide +kernel
theorem dX2_wishTold_19 : decode cX2_wishTold 19 = .ok (.ireturn, 1) := by decide +kernel
theorem dX2_wishTold_20 : decode cX2_wishTold 20 = .ok (.iinc 1 1, 3) := by decide +kernel
theorem dX2_wishTold_23 : decode cX2_wishTold 23 = .ok (.goto (-21), 3) := by decide +kernel
theorem dX2_wishTold_26 : decode cX2_wishTold 26 = .ok (.iconst (-1), 1) := by decide +kernel
theorem dX2_wishTold_27 : decode cX2_wishTold 27 = .ok (.ireturn, 1) := by decide +kernel
theorem dX2_isTold_0 : decode cX2_isTold 0 = .ok (.aload_n 1, 1) := by decide +kernel
theorem dX2_isTold_1 : decode cX2_isTold 1 = .ok (.invokevirtual 141, 3) := by decide +kernel
theorem dX2_isTold_4 : decode cX2_isTold 4 = .ok (.aload_n 0, 1) := by decide +kernel
theorem dX2_isTold_5 : decode cX2_isTold 5 = .ok (.getfield 39, 3) := by decide +kernel
theorem dX2_isTold_8 : decode cX2_isTold 8 = .ok (.aload_n 0, 1) := by decide +kernel
theorem dX2_isTold_9 : decode cX2_isTold 9 = .ok (.getfield 52, 3) := by decide +kernel
theorem dX2_isTold_12 : decode cX2_isTold 12 = .ok (.isub, 1) := by decide +kernel
theorem dX2_isTold_13 : decode cX2_isTold 13 = .ok (.if_icmp .ne 17, 3) := by decide +kernel
theorem dX2_isTold_16 : decode cX2_isTold 16 = .ok (.aload_n 0, 1) := by decide +kernel
theorem dX2_isTold_17 : decode cX2_isTold 17 = .ok (.getfield 39, 3) := by decide +kernel
theorem dX2_isTold_20 : decode cX2_isTold 20 = .ok (.aload_n 0, 1) := by decide +kernel
theorem dX2_isTold_21 : decode cX2_isTold 21 = .ok (.getfield 21, 3) := by decide +kernel
theorem dX2_isTold_24 : decode cX2_isTold 24 = .ok (.getfield 108, 3) := by decide +kernel
theorem dX2_isTold_27 : decode cX2_isTold 27 = .ok (.if_icmp .le 5, 3) := by decide +kernel
theorem dX2_isTold_30 : decode cX2_isTold 30 = .ok (.iconst 0, 1) := by decide +kernel
theorem dX2_isTold_31 : decode cX2_isTold 31 = .ok (.ireturn, 1) := by decide +kernel
theorem dX2_isTold_32 : decode cX2_isTold 32 = .ok (.iconst 0, 1) := by decide +kernel
theorem dX2_isTold_33 : decode cX2_isTold 33 = .ok (.istore_n 2, 1) := by decide +kernel
theorem dX2_isTold_34 : decode cX2_isTold 34 = .ok (.iload_n 2, 1) := by decide +kernel
theorem dX2_isTold_35 : decode cX2_isTold 35 = .ok (.aload_n 1, 1) := by decide +kernel
theorem dX2_isTold_36 : decode cX2_isTold 36 = .ok (.invokevirtual 141, 3) := by decide +kernel
theorem dX2_isTold_39 : decode cX2_isTold 39 = .ok (.if_icmp .ge 33, 3) := by decide +kernel
theorem dX2_isTold_42 : decode cX2_isTold 42 = .ok (.aload_n 1, 1) := by decide +kernel
theorem dX2_isTold_43 : decode cX2_isTold 43 = .ok (.iload_n 2, 1) := by decide +kernel
theorem dX2_isTold_44 : decode cX2_isTold 44 = .ok (.invokevirtual 145, 3) := by decide +kernel
theorem dX2_isTold_47 : decode cX2_isTold 47 = .ok (.aload_n 0, 1) := by decide +kernel
theorem dX2_isTold_48 : decode cX2_isTold 48 = .ok (.getfield 21, 3) := by decide +kernel
theorem dX2_isTold_51 : decode cX2_isTold 51 = .ok (.getfield 111, 3) := by decide +kernel
theorem dX2_isTold_54 : decode cX2_isTold 54 = .ok (.aload_n 0, 1) := by decide +kernel
theorem dX2_isTold_55 : decode cX2_isTold 55 = .ok (.getfield 52, 3) := by decide +kernel
theorem dX2_isTold_58 : decode cX2_isTold 58 = .ok (.iload_n 2, 1) := by decide +kernel
theorem dX2_isTold_59 : decode cX2_isTold 59 = .ok (.iadd, 1) := by decide +kernel
theorem dX2_isTold_60 : decode cX2_isTold 60 = .ok (.baload, 1) := by decide +kernel
theorem dX2_isTold_61 : decode cX2_isTold 61 = .ok (.if_icmp .eq 5, 3) := by decide +kernel
theorem dX2_isTold_64 : decode cX2_isTold 64 = .ok (.iconst 0, 1) := by decide +kernel
theorem dX2_isTold_65 : decode cX2_isTold 65 = .ok (.ireturn, 1) := by decide +kernel
theorem dX2_isTold_66 : decode cX2_isTold 66 = .ok (.iinc 2 1, 3) := by decide +kernel
theorem dX2_isTold_69 : decode cX2_isTold 69 = .ok (.goto (-35), 3) := by decide +kernel
theorem dX2_isTold_72 : decode cX2_isTold 72 = .ok (.iconst 1, 1) := by decide +kernel
theorem dX2_isTold_73 : decode cX2_isTold 73 = .ok (.ireturn, 1) := by decide +kernel
theorem dX2_isBlank_0 : decode cX2_isBlank 0 = .ok (.iload_n 0, 1) := by decide +kernel
theorem dX2_isBlank_1 : decode cX2_isBlank 1 = .ok (.bipush 32, 2) := by decide +kernel
theorem dX2_isBlank_3 : decode cX2_isBlank 3 = .ok (.if_icmp .eq 9, 3) := by decide +kernel
theorem dX2_isBlank_6 : decode cX2_isBlank 6 = .ok (.iload_n 0, 1) := by decide +kernel
theorem dX2_isBlank_7 : decode cX2_isBlank 7 = .ok (.bipush 10, 2) := by decide +kernel
theorem dX2_isBlank_9 : decode cX2_isBlank 9 = .ok (.if_icmp .ne 7, 3) := by decide +kernel
theorem dX2_isBlank_12 : decode cX2_isBlank 12 = .ok (.iconst 1, 1) := by decide +kernel
theorem dX2_isBlank_13 : decode cX2_isBlank 13 = .ok (.goto 4, 3) := by decide +kernel
theorem dX2_isBlank_16 : decode cX2_isBlank 16 = .ok (.iconst 0, 1) := by decide +kernel
theorem dX2_isBlank_17 : decode cX2_isBlank 17 = .ok (.ireturn, 1) := by decide +kernel
theorem dX2_isLetter_0 : decode cX2_isLetter 0 = .ok (.iload_n 0, 1) := by decide +kernel
theorem dX2_isLetter_1 : decode cX2_isLetter 1 = .ok (.bipush 97, 2) := by decide +kernel
theorem dX2_isLetter_3 : decode cX2_isLetter 3 = .ok (.if_icmp .lt 13, 3) := by decide +kernel
theorem dX2_isLetter_6 : decode cX2_isLetter 6 = .ok (.iload_n 0, 1) := by decide +kernel
theorem dX2_isLetter_7 : decode cX2_isLetter 7 = .ok (.bipush 122, 2) := by decide +kernel
theorem dX2_isLetter_9 : decode cX2_isLetter 9 = .ok (.if_icmp .gt 7, 3) := by decide +kernel
theorem dX2_isLetter_12 : decode cX2_isLetter 12 = .ok (.iconst 1, 1) := by decide +kernel
theorem dX2_isLetter_13 : decode cX2_isLetter 13 = .ok (.goto 4, 3) := by decide +kernel
theorem dX2_isLetter_16 : decode cX2_isLetter 16 = .ok (.iconst 0, 1) := by decide +kernel
theorem dX2_isLetter_17 : decode cX2_isLetter 17 = .ok (.ireturn, 1) := by decide +kernel
theorem dX2_isDigit_0 : decode cX2_isDigit 0 = .ok (.iload_n 0, 1) := by decide +kernel
theorem dX2_isDigit_1 : decode cX2_isDigit 1 = .ok (.bipush 48, 2) := by decide +kernel
theorem dX2_isDigit_3 : decode cX2_isDigit 3 = .ok (.if_icmp .lt 13, 3) := by decide +kernel
theorem dX2_isDigit_6 : decode cX2_isDigit 6 = .ok (.iload_n 0, 1) := by decide +kernel
theorem dX2_isDigit_7 : decode cX2_isDigit 7 = .ok (.bipush 57, 2) := by decide +kernel
theorem dX2_isDigit_9 : decode cX2_isDigit 9 = .ok (.if_icmp .gt 7, 3) := by decide +kernel
theorem dX2_isDigit_12 : decode cX2_isDigit 12 = .ok (.iconst 1, 1) := by decide +kernel
theorem dX2_isDigit_13 : decode cX2_isDigit 13 = .ok (.goto 4, 3) := by decide +kernel
theorem dX2_isDigit_16 : decode cX2_isDigit 16 = .ok (.iconst 0, 1) := by decide +kernel
theorem dX2_isDigit_17 : decode cX2_isDigit 17 = .ok (.ireturn, 1) := by decide +kernel
theorem dX3_init_0 : decode cX3_init 0 = .ok (.aload_n 0, 1) := by decide +kernel
theorem dX3_init_1 : decode cX3_init 1 = .ok (.invokespecial 3, 3) := by decide +kernel
theorem dX3_init_4 : decode cX3_init 4 = .ok (.aload_n 0, 1) := by decide +kernel
theorem dX3_init_5 : decode cX3_init 5 = .ok (.iconst 4, 1) := by decide +kernel
theorem dX3_init_6 : decode cX3_init 6 = .ok (.newarray .int, 2) := by decide +kernel
theorem dX3_init_8 : decode cX3_init 8 = .ok (.putfield 9, 3) := by decide +kernel
theorem dX3_init_11 : decode cX3_init 11 = .ok (.aload_n 0, 1) := by decide +kernel
theorem dX3_init_12 : decode cX3_init 12 = .ok (.iconst 2, 1) := by decide +kernel
theorem dX3_init_13 : decode cX3_init 13 = .ok (.newarray .int, 2) := by decide +kernel
theorem dX3_init_15 : decode cX3_init 15 = .ok (.putfield 15, 3) := by decide +kernel
theorem dX3_init_18 : decode cX3_init 18 = .ok (.aload_n 0, 1) := by decide +kernel
theorem dX3_init_19 : decode cX3_init 19 = .ok (.bipush 12, 2) := by decide +kernel
theorem dX3_init_21 : decode cX3_init 21 = .ok (.newarray .int, 2) := by decide +kernel
theorem dX3_init_23 : decode cX3_init 23 = .ok (.putfield 18, 3) := by decide +kernel
theorem dX3_init_26 : decode cX3_init 26 = .ok (.aload_n 0, 1) := by decide +kernel
theorem dX3_init_27 : decode cX3_init 27 = .ok (.bipush 12, 2) := by decide +kernel
theorem dX3_init_29 : decode cX3_init 29 = .ok (.newarray .int, 2) := by decide +kernel
theorem dX3_init_31 : decode cX3_init 31 = .ok (.putfield 21, 3) := by decide +kernel
theorem dX3_init_34 : decode cX3_init 34 = .ok (.return_, 1) := by decide +kernel
theorem dX3_find_0 : decode cX3_find 0 = .ok (.aload_n 0, 1) := by decide +kernel
theorem dX3_find_1 : decode cX3_find 1 = .ok (.iconst 0, 1) := by decide +kernel
theorem dX3_find_2 : decode cX3_find 2 = .ok (.putfield 24, 3) := by decide +kernel
theorem dX3_find_5 : decode cX3_find 5 = .ok (.aload_n 0, 1) := by decide +kernel
theorem dX3_find_6 : decode cX3_find 6 = .ok (.iconst 0, 1) := by decide +kernel
theorem dX3_find_7 : decode cX3_find 7 = .ok (.putfield 28, 3) := by decide +kernel
theorem dX3_find_10 : decode cX3_find 10 = .ok (.aload_n 0, 1) := by decide +kernel
theorem dX3_find_11 : decode cX3_find 11 = .ok (.iconst 0, 1) := by decide +kernel
theorem dX3_find_12 : decode cX3_find 12 = .ok (.putfield 32, 3) := by decide +kernel
theorem dX3_find_15 : decode cX3_find 15 = .ok (.aload_n 0, 1) := by decide +kernel
theorem dX3_find_16 : decode cX3_find 16 = .ok (.bipush 12, 2) := by decide +kernel
theorem dX3_find_18 : decode cX3_find 18 = .ok (.putfield 35, 3) := by decide +kernel
theorem dX3_find_21 : decode cX3_find 21 = .ok (.aload_n 1, 1) := by decide +kernel
theorem dX3_find_22 : decode cX3_find 22 = .ok (.getfield 38, 3) := by decide +kernel
theorem dX3_find_25 : decode cX3_find 25 = .ok (.iconst 4, 1) := by decide +kernel
theorem dX3_find_26 : decode cX3_find 26 = .ok (.iaload, 1) := by decide +kernel
theorem dX3_find_27 : decode cX3_find 27 = .ok (.istore_n 2, 1) := by decide +kernel
theorem dX3_find_28 : decode cX3_find 28 = .ok (.iconst 0, 1) := by decide +kernel
theorem dX3_find_29 : decode cX3_find 29 = .ok (.istore_n 3, 1) := by decide +kernel
theorem dX3_find_30 : decode cX3_find 30 = .ok (.iconst 0, 1) := by decide +kernel
theorem dX3_find_31 : decode cX3_find 31 = .ok (.istore 4, 2) := by decide +kernel
theorem dX3_find_33 : decode cX3_find 33 = .ok (.iload 4, 2) := by decide +kernel
theorem dX3_find_35 : decode cX3_find 35 = .ok (.aload_n 1, 1) := by decide +kernel
theorem dX3_find_36 : decode cX3_find 36 = .ok (.getfield 43, 3) := by decide +kernel
theorem dX3_find_39 : decode cX3_find 39 = .ok (.if_icmp .ge 25, 3) := by decide +kernel
theorem dX3_find_42 : decode cX3_find 42 = .ok (.aload_n 0, 1) := by decide +kernel
theorem dX3_find_43 : decode cX3_find 43 = .ok (.getfield 18, 3) := by decide +kernel
theorem dX3_find_46 : decode cX3_find 46 = .ok (.iload_n 3, 1) := by decide +kernel
theorem dX3_find_47 : decode cX3_find 47 = .ok (.aload_n 1, 1) := by decide +kernel
theorem dX3_find_48 : decode cX3_find 48 = .ok (.getfield 46, 3) := by decide +kernel
theorem dX3_find_51 : decode cX3_find 51 = .ok (.iload 4, 2) := by decide +kernel
theorem dX3_find_53 : decode cX3_find 53 = .ok (.iaload, 1) := by decide +kernel
theorem dX3_find_54 : decode cX3_find 54 = .ok (.invokestatic 49, 3) := by decide +kernel
theorem dX3_find_57 : decode cX3_find 57 = .ok (.istore_n 3, 1) := by decide +kernel
theorem dX3_find_58 : decode cX3_find 58 = .ok (.iinc 4 1, 3) := by decide +kernel
theorem dX3_find_61 : decode cX3_find 61 = .ok (.goto (-28), 3) := by decide +kernel
theorem dX3_find_64 : decode cX3_find 64 = .ok (.aload_n 0, 1) := by decide +kernel
theorem dX3_find_65 : decode cX3_find 65 = .ok (.aload_n 1, 1) := by decide +kernel
theorem dX3_find_66 : decode cX3_find 66 = .ok (.iconst (-1), 1) := by decide +kernel
theorem dX3_find_67 : decode cX3_find 67 = .ok (.iconst (-1), 1) := by decide +kernel
theorem dX3_find_68 : decode cX3_find 68 = .ok (.invokevirtual 53, 3) := by decide +kernel
theorem dX3_find_71 : decode cX3_find 71 = .ok (.iconst 0, 1) := by decide +kernel
theorem dX3_find_72 : decode cX3_find 72 = .ok (.istore 4, 2) := by decide +kernel
theorem dX3_find_74 : decode cX3_find 74 = .ok (.iload 4, 2) := by decide +kernel
theorem dX3_find_76 : decode cX3_find 76 = .ok (.iload_n 3, 1) := by decide +kernel
theorem dX3_find_77 : decode cX3_find 77 = .ok (.if_icmp .ge 68, 3) := by decide +kernel
theorem dX3_find_80 : decode cX3_find 80 = .ok (.iload_n 2, 1) := by decide +kernel
theorem dX3_find_81 : decode cX3_find 81 = .ok (.ifCond .le 64, 3) := by decide +kernel
theorem dX3_find_84 : decode cX3_find 84 = .ok (.aload_n 0, 1) := by decide +kernel
theorem dX3_find_85 : decode cX3_find 85 = .ok (.aload_n 1, 1) := by decide +kernel
theorem dX3_find_86 : decode cX3_find 86 = .ok (.aload_n 0, 1) := by decide +kernel
theorem dX3_find_87 : decode cX3_find 87 = .ok (.getfield 18, 3) := by decide +kernel
theorem dX3_find_90 : decode cX3_find 90 = .ok (.iload 4, 2) := by decide +kernel
theorem dX3_find_92 : decode cX3_find 92 = .ok (.iaload, 1) := by decide +kernel
theorem dX3_find_93 : decode cX3_find 93 = .ok (.iconst (-1), 1) := by decide +kernel
theorem dX3_find_94 : decode cX3_find 94 = .ok (.invokevirtual 53, 3) := by decide +kernel
theorem dX3_find_97 : decode cX3_find 97 = .ok (.iload 4, 2) := by decide +kernel
theorem dX3_find_99 : decode cX3_find 99 = .ok (.iconst 1, 1) := by decide +kernel
theorem dX3_find_100 : decode cX3_find 100 = .ok (.iadd, 1) := by decide +kernel
theorem dX3_find_101 : decode cX3_find 101 = .ok (.istore 5, 2) := by decide +kernel
theorem dX3_find_103 : decode cX3_find 103 = .ok (.iload 5, 2) := by decide +kernel
theorem dX3_find_105 : decode cX3_find 105 = .ok (.iload_n 3, 1) := by decide +kernel
theorem dX3_find_106 : decode cX3_find 106 = .ok (.if_icmp .ge 33, 3) := by decide +kernel
theorem dX3_find_109 : decode cX3_find 109 = .ok (.iload_n 2, 1) := by decide +kernel
theorem dX3_find_110 : decode cX3_find 110 = .ok (.iconst 1, 1) := by decide +kernel
theorem dX3_find_111 : decode cX3_find 111 = .ok (.if_icmp .le 28, 3) := by decide +kernel
theorem dX3_find_114 : decode cX3_find 114 = .ok (.aload_n 0, 1) := by decide +kernel
theorem dX3_find_115 : decode cX3_find 115 = .ok (.aload_n 1, 1) := by decide +kernel
theorem dX3_find_116 : decode cX3_find 116 = .ok (.aload_n 0, 1) := by decide +kernel
theorem dX3_find_117 : decode cX3_find 117 = .ok (.getfield 18, 3) := by decide +kernel
theorem dX3_find_120 : decode cX3_find 120 = .ok (.iload 4, 2) := by decide +kernel
theorem dX3_find_122 : decode cX3_find 122 = .ok (.iaload, 1) := by decide +kernel
theorem dX3_find_123 : decode cX3_find 123 = .ok (.aload_n 0, 1) := by decide +kernel
theorem dX3_find_124 : decode cX3_find 124 = .ok (.getfield 18, 3) := by decide +kernel
theorem dX3_find_127 : decode cX3_find 127 = .ok (.iload 5, 2) := by decide +kernel
theorem dX3_find_129 : decode cX3_find 129 = .ok (.iaload, 1) := by decide +kernel
theorem dX3_find_130 : decode cX3_find 130 = .ok (.invokevirtual 53, 3) := by decide +kernel
theorem dX3_find_133 : decode cX3_find 133 = .ok (.iinc 5 1, 3) := by decide +kernel
theorem dX3_find_136 : decode cX3_find 136 = .ok (.goto (-33), 3) := by decide +kernel
theorem dX3_find_139 : decode cX3_find 139 = .ok (.iinc 4 1, 3) := by decide +kernel
theorem dX3_find_142 : decode cX3_find 142 = .ok (.goto (-68), 3) := by decide +kernel
theorem dX3_find_145 : decode cX3_find 145 = .ok (.return_, 1) := by decide +kernel
theorem dX3_offer_0 : decode cX3_offer 0 = .ok (.aload_n 0, 1) := by decide +kernel
theorem dX3_offer_1 : decode cX3_offer 1 = .ok (.iconst 0, 1) := by decide +kernel
theorem dX3_offer_2 : decode cX3_offer 2 = .ok (.putfield 57, 3) := by decide +kernel
theorem dX3_offer_5 : decode cX3_offer 5 = .ok (.iconst 0, 1) := by decide +kernel
theorem dX3_offer_6 : decode cX3_offer 6 = .ok (.istore 4, 2) := by decide +kernel
theorem dX3_offer_8 : decode cX3_offer 8 = .ok (.iload 4, 2) := by decide +kernel
theorem dX3_offer_10 : decode cX3_offer 10 = .ok (.aload_n 1, 1) := by decide +kernel
theorem dX3_offer_11 : decode cX3_offer 11 = .ok (.getfield 43, 3) := by decide +kernel
theorem dX3_offer_14 : decode cX3_offer 14 = .ok (.if_icmp .ge 52, 3) := by decide +kernel
theorem dX3_offer_17 : decode cX3_offer 17 = .ok (.aload_n 1, 1) := by decide +kernel
theorem dX3_offer_18 : decode cX3_offer 18 = .ok (.getfield 46, 3) := by decide +kernel
theorem dX3_offer_21 : decode cX3_offer 21 = .ok (.iload 4, 2) := by decide +kernel
theorem dX3_offer_23 : decode cX3_offer 23 = .ok (.iaload, 1) := by decide +kernel
theorem dX3_offer_24 : decode cX3_offer 24 = .ok (.istore 5, 2) := by decide +kernel
theorem dX3_offer_26 : decode cX3_offer 26 = .ok (.iload 5, 2) := by decide +kernel
theorem dX3_offer_28 : decode cX3_offer 28 = .ok (.iload_n 2, 1) := by decide +kernel
theorem dX3_offer_29 : decode cX3_offer 29 = .ok (.if_icmp .eq 31, 3) := by decide +kernel
theorem dX3_offer_32 : decode cX3_offer 32 = .ok (.iload 5, 2) := by decide +kernel
theorem dX3_offer_34 : decode cX3_offer 34 = .ok (.iload_n 3, 1) := by decide +kernel
theorem dX3_offer_35 : decode cX3_offer 35 = .ok (.if_icmp .eq 25, 3) := by decide +kernel
theorem dX3_offer_38 : decode cX3_offer 38 = .ok (.aload_n 0, 1) := by decide +kernel
theorem dX3_offer_39 : decode cX3_offer 39 = .ok (.aload_n 0, 1) := by decide +kernel
theorem dX3_offer_40 : decode cX3_offer 40 = .ok (.getfield 21, 3) := by decide +kernel
theorem dX3_offer_43 : decode cX3_offer 43 = .ok (.aload_n 0, 1) := by decide +kernel
theorem dX3_offer_44 : decode cX3_offer 44 = .ok (.getfield 57, 3) := by decide +kernel
theorem dX3_offer_47 : decode cX3_offer 47 = .ok (.aload_n 1, 1) := by decide +kernel
theorem dX3_offer_48 : decode cX3_offer 48 = .ok (.getfield 60, 3) := by decide +kernel
theorem dX3_offer_51 : decode cX3_offer 51 = .ok (.iload 4, 2) := by decide +kernel
theorem dX3_offer_53 : decode cX3_offer 53 = .ok (.iaload, 1) := by decide +kernel
theorem dX3_offer_54 : decode cX3_offer 54 = .ok (.invokestatic 49, 3) := by decide +kernel
theorem dX3_offer_57 : decode cX3_offer 57 = .ok (.putfield 57, 3) := by decide +kernel
theorem dX3_offer_60 : decode cX3_offer 60 = .ok (.iinc 4 1, 3) := by decide +kernel
theorem dX3_offer_63 : decode cX3_offer 63 = .ok (.goto (-55), 3) := by decide +kernel
theorem dX3_offer_66 : decode cX3_offer 66 = .ok (.aload_n 0, 1) := by decide +kernel
theorem dX3_offer_67 : decode cX3_offer 67 = .ok (.aload_n 0, 1) := by decide +kernel
theorem dX3_offer_68 : decode cX3_offer 68 = .ok (.getfield 35, 3) := by decide +kernel
theorem dX3_offer_71 : decode cX3_offer 71 = .ok (.aload_n 0, 1) := by decide +kernel
theorem dX3_offer_72 : decode cX3_offer 72 = .ok (.getfield 57, 3) := by decide +kernel
theorem dX3_offer_75 : decode cX3_offer 75 = .ok (.invokestatic 63, 3) := by decide +kernel
theorem dX3_offer_78 : decode cX3_offer 78 = .ok (.putfield 35, 3) := by decide +kernel
theorem dX3_offer_81 : decode cX3_offer 81 = .ok (.iload_n 2, 1) := by decide +kernel
theorem dX3_offer_82 : decode cX3_offer 82 = .ok (.iconst (-1), 1) := by decide +kernel
theorem dX3_offer_83 : decode cX3_offer 83 = .ok (.if_icmp .ne 7, 3) := by decide +kernel
theorem dX3_offer_86 : decode cX3_offer 86 = .ok (.iconst 0, 1) := by decide +kernel
theorem dX3_offer_87 : decode cX3_offer 87 = .ok (.goto 4, 3) := by decide +kernel
theorem dX3_offer_90 : decode cX3_offer 90 = .ok (.iconst 1, 1) := by decide +kernel
theorem dX3_offer_91 : decode cX3_offer 91 = .ok (.iload_n 3, 1) := by decide +kernel
theorem dX3_offer_92 : decode cX3_offer 92 = .ok (.iconst (-1), 1) := by decide +kernel
theorem dX3_offer_93 : decode cX3_offer 93 = .ok (.if_icmp .ne 7, 3) := by decide +kernel
theorem dX3_offer_96 : decode cX3_offer 96 = .ok (.iconst 0, 1) := by decide +kernel
theorem dX3_offer_97 : decode cX3_offer 97 = .ok (.goto 4, 3) := by decide +kernel
theorem dX3_offer_100 : decode cX3_offer 100 = .ok (.iconst 1, 1) := by decide +kernel
theorem dX3_offer_101 : decode cX3_offer 101 = .ok (.iadd, 1) := by decide +kernel
theorem dX3_offer_102 : decode cX3_offer 102 = .ok (.istore 4, 2) := by decide +kernel
theorem dX3_offer_104 : decode cX3_offer 104 = .ok (.aload_n 0, 1) := by decide +kernel
theorem dX3_offer_105 : decode cX3_offer 105 = .ok (.getfield 57, 3) := by decide +kernel
theorem dX3_offer_108 : decode cX3_offer 108 = .ok (.aload_n 1, 1) := by decide +kernel
theorem dX3_offer_109 : decode cX3_offer 109 = .ok (.getfield 38, 3) := by decide +kernel
theorem dX3_offer_112 : decode cX3_offer 112 = .ok (.iconst 3, 1) := by decide +kernel
theorem dX3_offer_113 : decode cX3_offer 113 = .ok (.iaload, 1) := by decide +kernel
theorem dX3_offer_114 : decode cX3_offer 114 = .ok (.if_icmp .gt 15, 3) := by decide +kernel
theorem dX3_offer_117 : decode cX3_offer 117 = .ok (.aload_n 0, 1) := by decide +kernel
theorem dX3_offer_118 : decode cX3_offer 118 = .ok (.getfield 57, 3) := by decide +kernel
theorem dX3_offer_121 : decode cX3_offer 121 = .ok (.iconst 4, 1) := by decide +kernel
theorem dX3_offer_122 : decode cX3_offer 122 = .ok (.if_icmp .gt 7, 3) := by decide +kernel
theorem dX3_offer_125 : decode cX3_offer 125 = .ok (.iconst 1, 1) := by decide +kernel
theorem dX3_offer_126 : decode cX3_offer 126 = .ok (.goto 4, 3) := by decide +kernel
theorem dX3_offer_129 : decode cX3_offer 129 = .ok (.iconst 0, 1) := by decide +kernel
theorem dX3_offer_130 : decode cX3_offer 130 = .ok (.istore 5, 2) := by decide +kernel
theorem dX3_offer_132 : decode cX3_offer 132 = .ok (.iload 5, 2) := by decide +kernel
theorem dX3_offer_134 : decode cX3_offer 134 = .ok (.ifCond .eq 69, 3) := by decide +kernel
theorem dX3_offer_137 : decode cX3_offer 137 = .ok (.aload_n 0, 1) := by decide +kernel
theorem dX3_offer_138 : decode cX3_offer 138 = .ok (.getfield 24, 3) := by decide +kernel
theorem dX3_offer_141 : decode cX3_offer 141 = .ok (.ifCond .eq 12, 3) := by decide +kernel
theorem dX3_offer_144 : decode cX3_offer 144 = .ok (.aload_n 0, 1) := by decide +kernel
theorem dX3_offer_145 : decode cX3_offer 145 = .ok (.iload 4, 2) := by decide +kernel
theorem dX3_offer_147 : decode cX3_offer 147 = .ok (.invokevirtual 69, 3) := by decide +kernel
theorem dX3_offer_150 : decode cX3_offer 150 = .ok (.ifCond .eq 53, 3) := by decide +kernel
theorem dX3_offer_153 : decode cX3_offer 153 = .ok (.aload_n 0, 1) := by decide +kernel
theorem dX3_offer_154 : decode cX3_offer 154 = .ok (.iconst 1, 1) := by decide +kernel
theorem dX3_offer_155 : decode cX3_offer 155 = .ok (.putfield 24, 3) := by decide +kernel
theorem dX3_offer_158 : decode cX3_offer 158 = .ok (.aload_n 0, 1) := by decide +kernel
theorem dX3_offer_159 : decode cX3_offer 159 = .ok (.aload_n 0, 1) := by decide +kernel
theorem dX3_offer_160 : decode cX3_offer 160 = .ok (.getfield 57, 3) := by decide +kernel
theorem dX3_offer_163 : decode cX3_offer 163 = .ok (.putfield 28, 3) := by decide +kernel
theorem dX3_offer_166 : decode cX3_offer 166 = .ok (.aload_n 0, 1) := by decide +kernel
theorem dX3_offer_167 : decode cX3_offer 167 = .ok (.getfield 21, 3) := by decide +kernel
theorem dX3_offer_170 : decode cX3_offer 170 = .ok (.iconst 0, 1) := by decide +kernel
theorem dX3_offer_171 : decode cX3_offer 171 = .ok (.aload_n 0, 1) := by decide +kernel
theorem dX3_offer_172 : decode cX3_offer 172 = .ok (.getfield 9, 3) := by decide +kernel
theorem dX3_offer_175 : decode cX3_offer 175 = .ok (.iconst 0, 1) := by decide +kernel
theorem dX3_offer_176 : decode cX3_offer 176 = .ok (.aload_n 0, 1) := by decide +kernel
theorem dX3_offer_177 : decode cX3_offer 177 = .ok (.getfield 57, 3) := by decide +kernel
theorem dX3_offer_180 : decode cX3_offer 180 = .ok (.invokestatic 73, 3) := by decide +kernel
theorem dX3_offer_183 : decode cX3_offer 183 = .ok (.aload_n 0, 1) := by decide +kernel
theorem dX3_offer_184 : decode cX3_offer 184 = .ok (.iload 4, 2) := by decide +kernel
theorem dX3_offer_186 : decode cX3_offer 186 = .ok (.putfield 32, 3) := by decide +kernel
theorem dX3_offer_189 : decode cX3_offer 189 = .ok (.aload_n 0, 1) := by decide +kernel
theorem dX3_offer_190 : decode cX3_offer 190 = .ok (.getfield 15, 3) := by decide +kernel
theorem dX3_offer_193 : decode cX3_offer 193 = .ok (.iconst 0, 1) := by decide +kernel
theorem dX3_offer_194 : decode cX3_offer 194 = .ok (.iload_n 2, 1) := by decide +kernel
theorem dX3_offer_195 : decode cX3_offer 195 = .ok (.iastore, 1) := by decide +kernel
theorem dX3_offer_196 : decode cX3_offer 196 = .ok (.aload_n 0, 1) := by decide +kernel
theorem dX3_offer_197 : decode cX3_offer 197 = .ok (.getfield 15, 3) := by decide +kernel
theorem dX3_offer_200 : decode cX3_offer 200 = .ok (.iconst 1, 1) := by decide +kernel
theorem dX3_offer_201 : decode cX3_offer 201 = .ok (.iload_n 3, 1) := by decide +kernel
theorem dX3_offer_202 : decode cX3_offer 202 = .ok (.iastore, 1) := by decide +kernel
theorem dX3_offer_203 : decode cX3_offer 203 = .ok (.return_, 1) := by decide +kernel
theorem dX3_isBetter_0 : decode cX3_isBetter 0 = .ok (.aload_n 0, 1) := by decide +kernel
theorem dX3_isBetter_1 : decode cX3_isBetter 1 = .ok (.getfield 57, 3) := by decide +kernel
theorem dX3_isBetter_4 : decode cX3_isBetter 4 = .ok (.iload_n 1, 1) := by decide +kernel
theorem dX3_isBetter_5 : decode cX3_isBetter 5 = .ok (.iadd, 1) := by decide +kernel
theorem dX3_isBetter_6 : decode cX3_isBetter 6 = .ok (.aload_n 0, 1) := by decide +kernel
theorem dX3_isBetter_7 : decode cX3_isBetter 7 = .ok (.getfield 28, 3) := by decide +kernel
theorem dX3_isBetter_10 : decode cX3_isBetter 10 = .ok (.isub, 1) := by decide +kernel
theorem dX3_isBetter_11 : decode cX3_isBetter 11 = .ok (.aload_n 0, 1) := by decide +kernel
theorem dX3_isBetter_12 : decode cX3_isBetter 12 = .ok (.getfield 32, 3) := by decide +kernel
theorem dX3_isBetter_15 : decode cX3_isBetter 15 = .ok (.isub, 1) := by decide +kernel
theorem dX3_isBetter_16 : decode cX3_isBetter 16 = .ok (.istore_n 2, 1) := by decide +kernel
theorem dX3_isBetter_17 : decode cX3_isBetter 17 = .ok (.iload_n 2, 1) := by decide +kernel
theorem dX3_isBetter_18 : decode cX3_isBetter 18 = .ok (.ifCond .eq 13, 3) := by decide +kernel
theorem dX3_isBetter_21 : decode cX3_isBetter 21 = .ok (.iload_n 2, 1) := by decide +kernel
theorem dX3_isBetter_22 : decode cX3_isBetter 22 = .ok (.ifCond .ge 7, 3) := by decide +kernel
theorem dX3_isBetter_25 : decode cX3_isBetter 25 = .ok (.iconst 1, 1) := by decide +kernel
theorem dX3_isBetter_26 : decode cX3_isBetter 26 = .ok (.goto 4, 3) := by decide +kernel
theorem dX3_isBetter_29 : decode cX3_isBetter 29 = .ok (.iconst 0, 1) := by decide +kernel
theorem dX3_isBetter_30 : decode cX3_isBetter 30 = .ok (.ireturn, 1) := by decide +kernel
theorem dX3_isBetter_31 : decode cX3_isBetter 31 = .ok (.iload_n 1, 1) := by decide +kernel
theorem dX3_isBetter_32 : decode cX3_isBetter 32 = .ok (.aload_n 0, 1) := by decide +kernel
theorem dX3_isBetter_33 : decode cX3_isBetter 33 = .ok (.getfield 32, 3) := by decide +kernel
theorem dX3_isBetter_36 : decode cX3_isBetter 36 = .ok (.if_icmp .eq 17, 3) := by decide +kernel
theorem dX3_isBetter_39 : decode cX3_isBetter 39 = .ok (.iload_n 1, 1) := by decide +kernel
theorem dX3_isBetter_40 : decode cX3_isBetter 40 = .ok (.aload_n 0, 1) := by decide +kernel
theorem dX3_isBetter_41 : decode cX3_isBetter 41 = .ok (.getfield 32, 3) := by decide +kernel
theorem dX3_isBetter_44 : decode cX3_isBetter 44 = .ok (.if_icmp .ge 7, 3) := by decide +kernel
theorem dX3_isBetter_47 : decode cX3_isBetter 47 = .ok (.iconst 1, 1) := by decide +kernel
theorem dX3_isBetter_48 : decode cX3_isBetter 48 = .ok (.goto 4, 3) := by decide +kernel
theorem dX3_isBetter_51 : decode cX3_isBetter 51 = .ok (.iconst 0, 1) := by decide +kernel
theorem dX3_isBetter_52 : decode cX3_isBetter 52 = .ok (.ireturn, 1) := by decide +kernel
theorem dX3_isBetter_53 : decode cX3_isBetter 53 = .ok (.iconst 0, 1) := by decide +kernel
theorem dX3_isBetter_54 : decode cX3_isBetter 54 = .ok (.istore_n 3, 1) := by decide +kernel
theorem dX3_isBetter_55 : decode cX3_isBetter 55 = .ok (.iload_n 3, 1) := by decide +kernel
theorem dX3_isBetter_56 : decode cX3_isBetter 56 = .ok (.aload_n 0, 1) := by decide +kernel
theorem dX3_isBetter_57 : decode cX3_isBetter 57 = .ok (.getfield 57, 3) := by decide +kernel
theorem dX3_isBetter_60 : decode cX3_isBetter 60 = .ok (.if_icmp .ge 53, 3) := by decide +kernel
theorem dX3_isBetter_63 : decode cX3_isBetter 63 = .ok (.iload_n 3, 1) := by decide +kernel
theorem dX3_isBetter_64 : decode cX3_isBetter 64 = .ok (.aload_n 0, 1) := by decide +kernel
theorem dX3_isBetter_65 : decode cX3_isBetter 65 = .ok (.getfield 28, 3) := by decide +kernel
theorem dX3_isBetter_68 : decode cX3_isBetter 68 = .ok (.if_icmp .ge 45, 3) := by decide +kernel
theorem dX3_isBetter_71 : decode cX3_isBetter 71 = .ok (.aload_n 0, 1) := by decide +kernel
theorem dX3_isBetter_72 : decode cX3_isBetter 72 = .ok (.getfield 21, 3) := by decide +kernel
theorem dX3_isBetter_75 : decode cX3_isBetter 75 = .ok (.iload_n 3, 1) := by decide +kernel
theorem dX3_isBetter_76 : decode cX3_isBetter 76 = .ok (.iaload, 1) := by decide +kernel
theorem dX3_isBetter_77 : decode cX3_isBetter 77 = .ok (.aload_n 0, 1) := by decide +kernel
theorem dX3_isBetter_78 : decode cX3_isBetter 78 = .ok (.getfield 9, 3) := by decide +kernel
theorem dX3_isBetter_81 : decode cX3_isBetter 81 = .ok (.iload_n 3, 1) := by decide +kernel
theorem dX3_isBetter_82 : decode cX3_isBetter 82 = .ok (.iaload, 1) := by decide +kernel
theorem dX3_isBetter_83 : decode cX3_isBetter 83 = .ok (.if_icmp .eq 24, 3) := by decide +kernel
theorem dX3_isBetter_86 : decode cX3_isBetter 86 = .ok (.aload_n 0, 1) := by decide +kernel
theorem dX3_isBetter_87 : decode cX3_isBetter 87 = .ok (.getfield 21, 3) := by decide +kernel
theorem dX3_isBetter_90 : decode cX3_isBetter 90 = .ok (.iload_n 3, 1) := by decide +kernel
theorem dX3_isBetter_91 : decode cX3_isBetter 91 = .ok (.iaload, 1) := by decide +kernel
theorem dX3_isBetter_92 : decode cX3_isBetter 92 = .ok (.aload_n 0, 1) := by decide +kernel
theorem dX3_isBetter_93 : decode cX3_isBetter 93 = .ok (.getfield 9, 3) := by decide +kernel
theorem dX3_isBetter_96 : decode cX3_isBetter 96 = .ok (.iload_n 3, 1) := by decide +kernel
theorem dX3_isBetter_97 : decode cX3_isBetter 97 = .ok (.iaload, 1) := by decide +kernel
theorem dX3_isBetter_98 : decode cX3_isBetter 98 = .ok (.if_icmp .ge 7, 3) := by decide +kernel
theorem dX3_isBetter_101 : decode cX3_isBetter 101 = .ok (.iconst 1, 1) := by decide +kernel
theorem dX3_isBetter_102 : decode cX3_isBetter 102 = .ok (.goto 4, 3) := by decide +kernel
theorem dX3_isBetter_105 : decode cX3_isBetter 105 = .ok (.iconst 0, 1) := by decide +kernel
theorem dX3_isBetter_106 : decode cX3_isBetter 106 = .ok (.ireturn, 1) := by decide +kernel
theorem dX3_isBetter_107 : decode cX3_isBetter 107 = .ok (.iinc 3 1, 3) := by decide +kernel
theorem dX3_isBetter_110 : decode cX3_isBetter 110 = .ok (.goto (-55), 3) := by decide +kernel
theorem dX3_isBetter_113 : decode cX3_isBetter 113 = .ok (.iconst 0, 1) := by decide +kernel
theorem dX3_isBetter_114 : decode cX3_isBetter 114 = .ok (.ireturn, 1) := by decide +kernel
theorem dX4_init_0 : decode cX4_init 0 = .ok (.aload_n 0, 1) := by decide +kernel
theorem dX4_init_1 : decode cX4_init 1 = .ok (.invokespecial 3, 3) := by decide +kernel
theorem dX4_init_4 : decode cX4_init 4 = .ok (.aload_n 0, 1) := by decide +kernel
theorem dX4_init_5 : decode cX4_init 5 = .ok (.bipush 8, 2) := by decide +kernel
theorem dX4_init_7 : decode cX4_init 7 = .ok (.newarray .int, 2) := by decide +kernel
theorem dX4_init_9 : decode cX4_init 9 = .ok (.putfield 9, 3) := by decide +kernel
theorem dX4_init_12 : decode cX4_init 12 = .ok (.return_, 1) := by decide +kernel
theorem dX4_make_0 : decode cX4_make 0 = .ok (.iload_n 3, 1) := by decide +kernel
theorem dX4_make_1 : decode cX4_make 1 = .ok (.ifCond .eq 11, 3) := by decide +kernel
theorem dX4_make_4 : decode cX4_make 4 = .ok (.iconst 2, 1) := by decide +kernel
theorem dX4_make_5 : decode cX4_make 5 = .ok (.iload_n 3, 1) := by decide +kernel
theorem dX4_make_6 : decode cX4_make 6 = .ok (.invokestatic 15, 3) := by decide +kernel
theorem dX4_make_9 : decode cX4_make 9 = .ok (.ifCond .ne 5, 3) := by decide +kernel
theorem dX4_make_12 : decode cX4_make 12 = .ok (.iconst 0, 1) := by decide +kernel
theorem dX4_make_13 : decode cX4_make 13 = .ok (.ireturn, 1) := by decide +kernel
theorem dX4_make_14 : decode cX4_make 14 = .ok (.aload_n 0, 1) := by decide +kernel
theorem dX4_make_15 : decode cX4_make 15 = .ok (.iload_n 3, 1) := by decide +kernel
theorem dX4_make_16 : decode cX4_make 16 = .ok (.invokestatic 19, 3) := by decide +kernel
theorem dX4_make_19 : decode cX4_make 19 = .ok (.putfield 23, 3) := by decide +kernel
theorem dX4_make_22 : decode cX4_make 22 = .ok (.aload_n 0, 1) := by decide +kernel
theorem dX4_make_23 : decode cX4_make 23 = .ok (.iload_n 2, 1) := by decide +kernel
theorem dX4_make_24 : decode cX4_make 24 = .ok (.aload_n 0, 1) := by decide +kernel
theorem dX4_make_25 : decode cX4_make 25 = .ok (.getfield 23, 3) := by decide +kernel
theorem dX4_make_28 : decode cX4_make 28 = .ok (.ishr, 1) := by decide +kernel
theorem dX4_make_29 : decode cX4_make 29 = .ok (.putfield 27, 3) := by decide +kernel
theorem dX4_make_32 : decode cX4_make 32 = .ok (.aload_n 0, 1) := by decide +kernel
theorem dX4_make_33 : decode cX4_make 33 = .ok (.getfield 27, 3) := by decide +kernel
theorem dX4_make_36 : decode cX4_make 36 = .ok (.bipush 8, 2) := by decide +kernel
theorem dX4_make_38 : decode cX4_make 38 = .ok (.if_icmp .lt 13, 3) := by decide +kernel
theorem dX4_make_41 : decode cX4_make 41 = .ok (.aload_n 0, 1) := by decide +kernel
theorem dX4_make_42 : decode cX4_make 42 = .ok (.getfield 27, 3) := by decide +kernel
theorem dX4_make_45 : decode cX4_make 45 = .ok (.sipush 512, 3) := by decide +kernel
theorem dX4_make_48 : decode cX4_make 48 = .ok (.if_icmp .le 5, 3) := by decide +kernel
theorem dX4_make_51 : decode cX4_make 51 = .ok (.iconst 0, 1) := by decide +kernel
theorem dX4_make_52 : decode cX4_make 52 = .ok (.ireturn, 1) := by decide +kernel
theorem dX4_make_53 : decode cX4_make 53 = .ok (.aload_n 0, 1) := by decide +kernel
theorem dX4_make_54 : decode cX4_make 54 = .ok (.aload_n 0, 1) := by decide +kernel
theorem dX4_make_55 : decode cX4_make 55 = .ok (.getfield 27, 3) := by decide +kernel
theorem dX4_make_58 : decode cX4_make 58 = .ok (.invokestatic 19, 3) := by decide +kernel
theorem dX4_make_61 : decode cX4_make 61 = .ok (.putfield 30, 3) := by decide +kernel
theorem dX4_make_64 : decode cX4_make 64 = .ok (.aload_n 0, 1) := by decide +kernel
theorem dX4_make_65 : decode cX4_make 65 = .ok (.aload_n 1, 1) := by decide +kernel
theorem dX4_make_66 : decode cX4_make 66 = .ok (.iconst 1, 1) := by decide +kernel
theorem dX4_make_67 : decode cX4_make 67 = .ok (.iaload, 1) := by decide +kernel
theorem dX4_make_68 : decode cX4_make 68 = .ok (.iload_n 3, 1) := by decide +kernel
theorem dX4_make_69 : decode cX4_make 69 = .ok (.imul, 1) := by decide +kernel
theorem dX4_make_70 : decode cX4_make 70 = .ok (.putfield 33, 3) := by decide +kernel
theorem dX4_make_73 : decode cX4_make 73 = .ok (.aload_n 0, 1) := by decide +kernel
theorem dX4_make_74 : decode cX4_make 74 = .ok (.aload_n 0, 1) := by decide +kernel
theorem dX4_make_75 : decode cX4_make 75 = .ok (.getfield 27, 3) := by decide +kernel
theorem dX4_make_78 : decode cX4_make 78 = .ok (.aload_n 1, 1) := by decide +kernel
theorem dX4_make_79 : decode cX4_make 79 = .ok (.iconst 3, 1) := by decide +kernel
theorem dX4_make_80 : decode cX4_make 80 = .ok (.iaload, 1) := by decide +kernel
theorem dX4_make_81 : decode cX4_make 81 = .ok (.iadd, 1) := by decide +kernel
theorem dX4_make_82 : decode cX4_make 82 = .ok (.iconst 1, 1) := by decide +kernel
theorem dX4_make_83 : decode cX4_make 83 = .ok (.iadd, 1) := by decide +kernel
theorem dX4_make_84 : decode cX4_make 84 = .ok (.putfield 36, 3) := by decide +kernel
theorem dX4_make_87 : decode cX4_make 87 = .ok (.aload_n 0, 1) := by decide +kernel
theorem dX4_make_88 : decode cX4_make 88 = .ok (.aload_n 0, 1) := by decide +kernel
theorem dX4_make_89 : decode cX4_make 89 = .ok (.getfield 33, 3) := by decide +kernel
theorem dX4_make_92 : decode cX4_make 92 = .ok (.aload_n 1, 1) := by decide +kernel
theorem dX4_make_93 : decode cX4_make 93 = .ok (.iconst 4, 1) := by decide +kernel
theorem dX4_make_94 : decode cX4_make 94 = .ok (.iaload, 1) := by decide +kernel
theorem dX4_make_95 : decode cX4_make 95 = .ok (.iadd, 1) := by decide +kernel
theorem dX4_make_96 : decode cX4_make 96 = .ok (.iconst 1, 1) := by decide +kernel
theorem dX4_make_97 : decode cX4_make 97 = .ok (.iadd, 1) := by decide +kernel
theorem dX4_make_98 : decode cX4_make 98 = .ok (.putfield 39, 3) := by decide +kernel
theorem dX4_make_101 : decode cX4_make 101 = .ok (.aload_n 0, 1) := by decide +kernel
theorem dX4_make_102 : decode cX4_make 102 = .ok (.invokevirtual 42, 3) := by decide +kernel
theorem dX4_make_105 : decode cX4_make 105 = .ok (.aload_n 0, 1) := by decide +kernel
theorem dX4_make_106 : decode cX4_make 106 = .ok (.invokevirtual 45, 3) := by decide +kernel
theorem dX4_make_109 : decode cX4_make 109 = .ok (.aload_n 0, 1) := by decide +kernel
theorem dX4_make_110 : decode cX4_make 110 = .ok (.aload_n 0, 1) := by decide +kernel
theorem dX4_make_111 : decode cX4_make 111 = .ok (.getfield 39, 3) := by decide +kernel
theorem dX4_make_114 : decode cX4_make 114 = .ok (.aload_n 1, 1) := by decide +kernel
theorem dX4_make_115 : decode cX4_make 115 = .ok (.iconst 5, 1) := by decide +kernel
theorem dX4_make_116 : decode cX4_make 116 = .ok (.iaload, 1) := by decide +kernel
theorem dX4_make_117 : decode cX4_make 117 = .ok (.imul, 1) := by decide +kernel
theorem dX4_make_118 : decode cX4_make 118 = .ok (.bipush 12, 2) := by decide +kernel
theorem dX4_make_120 : decode cX4_make 120 = .ok (.aload_n 0, 1) := by decide +kernel
theorem dX4_make_121 : decode cX4_make 121 = .ok (.getfield 30, 3) := by decide +kernel
theorem dX4_make_124 : decode cX4_make 124 = .ok (.imul, 1) := by decide +kernel
theorem dX4_make_125 : decode cX4_make 125 = .ok (.iadd, 1) := by decide +kernel
theorem dX4_make_126 : decode cX4_make 126 = .ok (.aload_n 0, 1) := by decide +kernel
theorem dX4_make_127 : decode cX4_make 127 = .ok (.getfield 9, 3) := by decide +kernel
theorem dX4_make_130 : decode cX4_make 130 = .ok (.aload_n 0, 1) := by decide +kernel
theorem dX4_make_131 : decode cX4_make 131 = .ok (.getfield 48, 3) := by decide +kernel
theorem dX4_make_134 : decode cX4_make 134 = .ok (.iconst 1, 1) := by decide +kernel
theorem dX4_make_135 : decode cX4_make 135 = .ok (.isub, 1) := by decide +kernel
theorem dX4_make_136 : decode cX4_make 136 = .ok (.iaload, 1) := by decide +kernel
theorem dX4_make_137 : decode cX4_make 137 = .ok (.iadd, 1) := by decide +kernel
theorem dX4_make_138 : decode cX4_make 138 = .ok (.putfield 51, 3) := by decide +kernel
theorem dX4_make_141 : decode cX4_make 141 = .ok (.aload_n 0, 1) := by decide +kernel
theorem dX4_make_142 : decode cX4_make 142 = .ok (.aload_n 0, 1) := by decide +kernel
theorem dX4_make_143 : decode cX4_make 143 = .ok (.getfield 36, 3) := by decide +kernel
theorem dX4_make_146 : decode cX4_make 146 = .ok (.aload_n 1, 1) := by decide +kernel
theorem dX4_make_147 : decode cX4_make 147 = .ok (.bipush 6, 2) := by decide +kernel
theorem dX4_make_149 : decode cX4_make 149 = .ok (.iaload, 1) := by decide +kernel
theorem dX4_make_150 : decode cX4_make 150 = .ok (.imul, 1) := by decide +kernel
theorem dX4_make_151 : decode cX4_make 151 = .ok (.bipush 30, 2) := by decide +kernel
theorem dX4_make_153 : decode cX4_make 153 = .ok (.iadd, 1) := by decide +kernel
theorem dX4_make_154 : decode cX4_make 154 = .ok (.bipush 8, 2) := by decide +kernel
theorem dX4_make_156 : decode cX4_make 156 = .ok (.aload_n 0, 1) := by decide +kernel
theorem dX4_make_157 : decode cX4_make 157 = .ok (.getfield 23, 3) := by decide +kernel
theorem dX4_make_160 : decode cX4_make 160 = .ok (.imul, 1) := by decide +kernel
theorem dX4_make_161 : decode cX4_make 161 = .ok (.iadd, 1) := by decide +kernel
theorem dX4_make_162 : decode cX4_make 162 = .ok (.putfield 54, 3) := by decide +kernel
theorem dX4_make_165 : decode cX4_make 165 = .ok (.aload_n 0, 1) := by decide +kernel
theorem dX4_make_166 : decode cX4_make 166 = .ok (.aload_n 0, 1) := by decide +kernel
theorem dX4_make_167 : decode cX4_make 167 = .ok (.getfield 39, 3) := by decide +kernel
theorem dX4_make_170 : decode cX4_make 170 = .ok (.aload_n 0, 1) := by decide +kernel
theorem dX4_make_171 : decode cX4_make 171 = .ok (.getfield 39, 3) := by decide +kernel
theorem dX4_make_174 : decode cX4_make 174 = .ok (.imul, 1) := by decide +kernel
theorem dX4_make_175 : decode cX4_make 175 = .ok (.bipush 20, 2) := by decide +kernel
theorem dX4_make_177 : decode cX4_make 177 = .ok (.idiv, 1) := by decide +kernel
theorem dX4_make_178 : decode cX4_make 178 = .ok (.putfield 57, 3) := by decide +kernel
theorem dX4_make_181 : decode cX4_make 181 = .ok (.aload_n 0, 1) := by decide +kernel
theorem dX4_make_182 : decode cX4_make 182 = .ok (.iconst 3, 1) := by decide +kernel
theorem dX4_make_183 : decode cX4_make 183 = .ok (.aload_n 0, 1) := by decide +kernel
theorem dX4_make_184 : decode cX4_make 184 = .ok (.getfield 36, 3) := by decide +kernel
theorem dX4_make_187 : decode cX4_make 187 = .ok (.imul, 1) := by decide +kernel
theorem dX4_make_188 : decode cX4_make 188 = .ok (.putfield 60, 3) := by decide +kernel
theorem dX4_make_191 : decode cX4_make 191 = .ok (.aload_n 0, 1) := by decide +kernel
theorem dX4_make_192 : decode cX4_make 192 = .ok (.bipush 20, 2) := by decide +kernel
theorem dX4_make_194 : decode cX4_make 194 = .ok (.iconst 5, 1) := by decide +kernel
theorem dX4_make_195 : decode cX4_make 195 = .ok (.aload_n 0, 1) := by decide +kernel
theorem dX4_make_196 : decode cX4_make 196 = .ok (.getfield 23, 3) := by decide +kernel
theorem dX4_make_199 : decode cX4_make 199 = .ok (.imul, 1) := by decide +kernel
theorem dX4_make_200 : decode cX4_make 200 = .ok (.iadd, 1) := by decide +kernel
theorem dX4_make_201 : decode cX4_make 201 = .ok (.putfield 63, 3) := by decide +kernel
theorem dX4_make_204 : decode cX4_make 204 = .ok (.aload_n 0, 1) := by decide +kernel
theorem dX4_make_205 : decode cX4_make 205 = .ok (.aload_n 0, 1) := by decide +kernel
theorem dX4_make_206 : decode cX4_make 206 = .ok (.aload_n 1, 1) := by decide +kernel
theorem dX4_make_207 : decode cX4_make 207 = .ok (.bipush 7, 2) := by decide +kernel
theorem dX4_make_209 : decode cX4_make 209 = .ok (.iaload, 1) := by decide +kernel
theorem dX4_make_210 : decode cX4_make 210 = .ok (.invokevirtual 66, 3) := by decide +kernel
theorem dX4_make_213 : decode cX4_make 213 = .ok (.putfield 69, 3) := by decide +kernel
theorem dX4_make_216 : decode cX4_make 216 = .ok (.iconst 1, 1) := by decide +kernel
theorem dX4_make_217 : decode cX4_make 217 = .ok (.ireturn, 1) := by decide +kernel
theorem dX4_chooseStages_0 : decode cX4_chooseStages 0 = .ok (.aload_n 0, 1) := by decide +kernel
theorem dX4_chooseStages_1 : decode cX4_chooseStages 1 = .ok (.aload_n 0, 1) := by decide +kernel
theorem dX4_chooseStages_2 : decode cX4_chooseStages 2 = .ok (.getfield 30, 3) := by decide +kernel
theorem dX4_chooseStages_5 : decode cX4_chooseStages 5 = .ok (.iconst 5, 1) := by decide +kernel
theorem dX4_chooseStages_6 : decode cX4_chooseStages 6 = .ok (.if_icmp .lt 7, 3) := by decide +kernel
theorem dX4_chooseStages_9 : decode cX4_chooseStages 9 = .ok (.iconst 3, 1) := by decide +kernel
theorem dX4_chooseStages_10 : decode cX4_chooseStages 10 = .ok (.goto 4, 3) := by decide +kernel
theorem dX4_chooseStages_13 : decode cX4_chooseStages 13 = .ok (.iconst 2, 1) := by decide +kernel
theorem dX4_chooseStages_14 : decode cX4_chooseStages 14 = .ok (.putfield 72, 3) := by decide +kernel
theorem dX4_chooseStages_17 : decode cX4_chooseStages 17 = .ok (.aload_n 0, 1) := by decide +kernel
theorem dX4_chooseStages_18 : decode cX4_chooseStages 18 = .ok (.aload_n 0, 1) := by decide +kernel
theorem dX4_chooseStages_19 : decode cX4_chooseStages 19 = .ok (.getfield 30, 3) := by decide +kernel
theorem dX4_chooseStages_22 : decode cX4_chooseStages 22 = .ok (.aload_n 0, 1) := by decide +kernel
theorem dX4_chooseStages_23 : decode cX4_chooseStages 23 = .ok (.getfield 72, 3) := by decide +kernel
theorem dX4_chooseStages_26 : decode cX4_chooseStages 26 = .ok (.invokestatic 75, 3) := by decide +kernel
theorem dX4_chooseStages_29 : decode cX4_chooseStages 29 = .ok (.putfield 79, 3) := by decide +kernel
theorem dX4_chooseStages_32 : decode cX4_chooseStages 32 = .ok (.aload_n 0, 1) := by decide +kernel
theorem dX4_chooseStages_33 : decode cX4_chooseStages 33 = .ok (.iconst 2, 1) := by decide +kernel
theorem dX4_chooseStages_34 : decode cX4_chooseStages 34 = .ok (.putfield 48, 3) := by decide +kernel
theorem dX4_chooseStages_37 : decode cX4_chooseStages 37 = .ok (.aload_n 0, 1) := by decide +kernel
theorem dX4_chooseStages_38 : decode cX4_chooseStages 38 = .ok (.aload_n 0, 1) := by decide +kernel
theorem dX4_chooseStages_39 : decode cX4_chooseStages 39 = .ok (.iconst 2, 1) := by decide +kernel
theorem dX4_chooseStages_40 : decode cX4_chooseStages 40 = .ok (.invokevirtual 82, 3) := by decide +kernel
theorem dX4_chooseStages_43 : decode cX4_chooseStages 43 = .ok (.putfield 85, 3) := by decide +kernel
theorem dX4_chooseStages_46 : decode cX4_chooseStages 46 = .ok (.aload_n 0, 1) := by decide +kernel
theorem dX4_chooseStages_47 : decode cX4_chooseStages 47 = .ok (.aload_n 0, 1) := by decide +kernel
theorem dX4_chooseStages_48 : decode cX4_chooseStages 48 = .ok (.iconst 2, 1) := by decide +kernel
theorem dX4_chooseStages_49 : decode cX4_chooseStages 49 = .ok (.aload_n 0, 1) := by decide +kernel
theorem dX4_chooseStages_50 : decode cX4_chooseStages 50 = .ok (.getfield 85, 3) := by decide +kernel
theorem dX4_chooseStages_53 : decode cX4_chooseStages 53 = .ok (.invokevirtual 88, 3) := by decide +kernel
theorem dX4_chooseStages_56 : decode cX4_chooseStages 56 = .ok (.putfield 91, 3) := by decide +kernel
theorem dX4_chooseStages_59 : decode cX4_chooseStages 59 = .ok (.iconst 4, 1) := by decide +kernel
theorem dX4_chooseStages_60 : decode cX4_chooseStages 60 = .ok (.istore_n 1, 1) := by decide +kernel
theorem dX4_chooseStages_61 : decode cX4_chooseStages 61 = .ok (.iload_n 1, 1) := by decide +kernel
theorem dX4_chooseStages_62 : decode cX4_chooseStages 62 = .ok (.bipush 8, 2) := by decide +kernel
theorem dX4_chooseStages_64 : decode cX4_chooseStages 64 = .ok (.if_icmp .gt 48, 3) := by decide +kernel
theorem dX4_chooseStages_67 : decode cX4_chooseStages 67 = .ok (.aload_n 0, 1) := by decide +kernel
theorem dX4_chooseStages_68 : decode cX4_chooseStages 68 = .ok (.iload_n 1, 1) := by decide +kernel
theorem dX4_chooseStages_69 : decode cX4_chooseStages 69 = .ok (.invokevirtual 82, 3) := by decide +kernel
theorem dX4_chooseStages_72 : decode cX4_chooseStages 72 = .ok (.istore_n 2, 1) := by decide +kernel
theorem dX4_chooseStages_73 : decode cX4_chooseStages 73 = .ok (.aload_n 0, 1) := by decide +kernel
theorem dX4_chooseStages_74 : decode cX4_chooseStages 74 = .ok (.iload_n 1, 1) := by decide +kernel
theorem dX4_chooseStages_75 : decode cX4_chooseStages 75 = .ok (.iload_n 2, 1) := by decide +kernel
theorem dX4_chooseStages_76 : decode cX4_chooseStages 76 = .ok (.invokevirtual 88, 3) := by decide +kernel
theorem dX4_chooseStages_79 : decode cX4_chooseStages 79 = .ok (.aload_n 0, 1) := by decide +kernel
theorem dX4_chooseStages_80 : decode cX4_chooseStages 80 = .ok (.getfield 91, 3) := by decide +kernel
theorem dX4_chooseStages_83 : decode cX4_chooseStages 83 = .ok (.if_icmp .ge 23, 3) := by decide +kernel
theorem dX4_chooseStages_86 : decode cX4_chooseStages 86 = .ok (.aload_n 0, 1) := by decide +kernel
theorem dX4_chooseStages_87 : decode cX4_chooseStages 87 = .ok (.iload_n 1, 1) := by decide +kernel
theorem dX4_chooseStages_88 : decode cX4_chooseStages 88 = .ok (.putfield 48, 3) := by decide +kernel
theorem dX4_chooseStages_91 : decode cX4_chooseStages 91 = .ok (.aload_n 0, 1) := by decide +kernel
theorem dX4_chooseStages_92 : decode cX4_chooseStages 92 = .ok (.iload_n 2, 1) := by decide +kernel
theorem dX4_chooseStages_93 : decode cX4_chooseStages 93 = .ok (.putfield 85, 3) := by decide +kernel
theorem dX4_chooseStages_96 : decode cX4_chooseStages 96 = .ok (.aload_n 0, 1) := by decide +kernel
theorem dX4_chooseStages_97 : decode cX4_chooseStages 97 = .ok (.aload_n 0, 1) := by decide +kernel
theorem dX4_chooseStages_98 : decode cX4_chooseStages 98 = .ok (.iload_n 1, 1) := by decide +kernel
theorem dX4_chooseStages_99 : decode cX4_chooseStages 99 = .ok (.iload_n 2, 1) := by decide +kernel
theorem dX4_chooseStages_100 : decode cX4_chooseStages 100 = .ok (.invokevirtual 88, 3) := by decide +kernel
theorem dX4_chooseStages_103 : decode cX4_chooseStages 103 = .ok (.putfield 91, 3) := by decide +kernel
theorem dX4_chooseStages_106 : decode cX4_chooseStages 106 = .ok (.iinc 1 2, 3) := by decide +kernel
theorem dX4_chooseStages_109 : decode cX4_chooseStages 109 = .ok (.goto (-48), 3) := by decide +kernel
theorem dX4_chooseStages_112 : decode cX4_chooseStages 112 = .ok (.return_, 1) := by decide +kernel
theorem dX4_delayOf_0 : decode cX4_delayOf 0 = .ok (.iload_n 1, 1) := by decide +kernel
theorem dX4_delayOf_1 : decode cX4_delayOf 1 = .ok (.iload_n 2, 1) := by decide +kernel
theorem dX4_delayOf_2 : decode cX4_delayOf 2 = .ok (.imul, 1) := by decide +kernel
theorem dX4_delayOf_3 : decode cX4_delayOf 3 = .ok (.bipush 10, 2) := by decide +kernel
theorem dX4_delayOf_5 : decode cX4_delayOf 5 = .ok (.aload_n 0, 1) := by decide +kernel
theorem dX4_delayOf_6 : decode cX4_delayOf 6 = .ok (.getfield 72, 3) := by decide +kernel
theorem dX4_delayOf_9 : decode cX4_delayOf 9 = .ok (.aload_n 0, 1) := by decide +kernel
theorem dX4_delayOf_10 : decode cX4_delayOf 10 = .ok (.getfield 79, 3) := by decide +kernel
theorem dX4_delayOf_13 : decode cX4_delayOf 13 = .ok (.iadd, 1) := by decide +kernel
theorem dX4_delayOf_14 : decode cX4_delayOf 14 = .ok (.iload_n 1, 1) := by decide +kernel
theorem dX4_delayOf_15 : decode cX4_delayOf 15 = .ok (.iadd, 1) := by decide +kernel
theorem dX4_delayOf_16 : decode cX4_delayOf 16 = .ok (.iconst 2, 1) := by decide +kernel
theorem dX4_delayOf_17 : decode cX4_delayOf 17 = .ok (.isub, 1) := by decide +kernel
theorem dX4_delayOf_18 : decode cX4_delayOf 18 = .ok (.imul, 1) := by decide +kernel
theorem dX4_delayOf_19 : decode cX4_delayOf 19 = .ok (.iadd, 1) := by decide +kernel
theorem dX4_delayOf_20 : decode cX4_delayOf 20 = .ok (.ireturn, 1) := by decide +kernel
theorem dX4_leastTenths_0 : decode cX4_leastTenths 0 = .ok (.aload_n 0, 1) := by decide +kernel
theorem dX4_leastTenths_1 : decode cX4_leastTenths 1 = .ok (.getfield 72, 3) := by decide +kernel
theorem dX4_leastTenths_4 : decode cX4_leastTenths 4 = .ok (.i2l, 1) := by decide +kernel
theorem dX4_leastTenths_5 : decode cX4_leastTenths 5 = .ok (.ldc2_w 94, 3) := by decide +kernel
theorem dX4_leastTenths_8 : decode cX4_leastTenths 8 = .ok (.ladd, 1) := by decide +kernel
theorem dX4_leastTenths_9 : decode cX4_leastTenths 9 = .ok (.aload_n 0, 1) := by decide +kernel
theorem dX4_leastTenths_10 : decode cX4_leastTenths 10 = .ok (.getfield 79, 3) := by decide +kernel
theorem dX4_leastTenths_13 : decode cX4_leastTenths 13 = .ok (.iconst 2, 1) := by decide +kernel
theorem dX4_leastTenths_14 : decode cX4_leastTenths 14 = .ok (.iadd, 1) := by decide +kernel
theorem dX4_leastTenths_15 : decode cX4_leastTenths 15 = .ok (.i2l, 1) := by decide +kernel
theorem dX4_leastTenths_16 : decode cX4_leastTenths 16 = .ok (.lmul, 1) := by decide +kernel
theorem dX4_leastTenths_17 : decode cX4_leastTenths 17 = .ok (.aload_n 0, 1) := by decide +kernel
theorem dX4_leastTenths_18 : decode cX4_leastTenths 18 = .ok (.getfield 27, 3) := by decide +kernel
theorem dX4_leastTenths_21 : decode cX4_leastTenths 21 = .ok (.i2l, 1) := by decide +kernel
theorem dX4_leastTenths_22 : decode cX4_leastTenths 22 = .ok (.lmul, 1) := by decide +kernel
theorem dX4_leastTenths_23 : decode cX4_leastTenths 23 = .ok (.aload_n 0, 1) := by decide +kernel
theorem dX4_leastTenths_24 : decode cX4_leastTenths 24 = .ok (.getfield 39, 3) := by decide +kernel
theorem dX4_leastTenths_27 : decode cX4_leastTenths 27 = .ok (.i2l, 1) := by decide +kernel
theorem dX4_leastTenths_28 : decode cX4_leastTenths 28 = .ok (.lmul, 1) := by decide +kernel
theorem dX4_leastTenths_29 : decode cX4_leastTenths 29 = .ok (.lstore_n 2, 1) := by decide +kernel
theorem dX4_leastTenths_30 : decode cX4_leastTenths 30 = .ok (.iconst 0, 1) := by decide +kernel
theorem dX4_leastTenths_31 : decode cX4_leastTenths 31 = .ok (.istore 4, 2) := by decide +kernel
theorem dX4_leastTenths_33 : decode cX4_leastTenths 33 = .ok (.iload 4, 2) := by decide +kernel
theorem dX4_leastTenths_35 : decode cX4_leastTenths 35 = .ok (.iload_n 1, 1) := by decide +kernel
theorem dX4_leastTenths_36 : decode cX4_leastTenths 36 = .ok (.if_icmp .ge 15, 3) := by decide +kernel
theorem dX4_leastTenths_39 : decode cX4_leastTenths 39 = .ok (.lload_n 2, 1) := by decide +kernel
theorem dX4_leastTenths_40 : decode cX4_leastTenths 40 = .ok (.ldc2_w 96, 3) := by decide +kernel
theorem dX4_leastTenths_43 : decode cX4_leastTenths 43 = .ok (.lmul, 1) := by decide +kernel
theorem dX4_leastTenths_44 : decode cX4_leastTenths 44 = .ok (.lstore_n 2, 1) := by decide +kernel
theorem dX4_leastTenths_45 : decode cX4_leastTenths 45 = .ok (.iinc 4 1, 3) := by decide +kernel
theorem dX4_leastTenths_48 : decode cX4_leastTenths 48 = .ok (.goto (-15), 3) := by decide +kernel
theorem dX4_leastTenths_51 : decode cX4_leastTenths 51 = .ok (.iconst 0, 1) := by decide +kernel
theorem dX4_leastTenths_52 : decode cX4_leastTenths 52 = .ok (.istore 4, 2) := by decide +kernel
theorem dX4_leastTenths_54 : decode cX4_leastTenths 54 = .ok (.sipush 2048, 3) := by decide +kernel
theorem dX4_leastTenths_57 : decode cX4_leastTenths 57 = .ok (.istore 5, 2) := by decide +kernel
theorem dX4_leastTenths_59 : decode cX4_leastTenths 59 = .ok (.iload 5, 2) := by decide +kernel
theorem dX4_leastTenths_61 : decode cX4_leastTenths 61 = .ok (.ifCond .le 69, 3) := by decide +kernel
theorem dX4_leastTenths_64 : decode cX4_leastTenths 64 = .ok (.ldc2_w 98, 3) := by decide +kernel
theorem dX4_leastTenths_67 : decode cX4_leastTenths 67 = .ok (.lstore 6, 2) := by decide +kernel
theorem dX4_leastTenths_69 : decode cX4_leastTenths 69 = .ok (.iconst 0, 1) := by decide +kernel
theorem dX4_leastTenths_70 : decode cX4_leastTenths 70 = .ok (.istore 8, 2) := by decide +kernel
theorem dX4_leastTenths_72 : decode cX4_leastTenths 72 = .ok (.iload 8, 2) := by decide +kernel
theorem dX4_leastTenths_74 : decode cX4_leastTenths 74 = .ok (.iload_n 1, 1) := by decide +kernel
theorem dX4_leastTenths_75 : decode cX4_leastTenths 75 = .ok (.if_icmp .ge 27, 3) := by decide +kernel
theorem dX4_leastTenths_78 : decode cX4_leastTenths 78 = .ok (.lload 6, 2) := by decide +kernel
theorem dX4_leastTenths_80 : decode cX4_leastTenths 80 = .ok (.lload_n 2, 1) := by decide +kernel
theorem dX4_leastTenths_81 : decode cX4_leastTenths 81 = .ok (.lcmp, 1) := by decide +kernel
theorem dX4_leastTenths_82 : decode cX4_leastTenths 82 = .ok (.ifCond .ge 20, 3) := by decide +kernel
theorem dX4_leastTenths_85 : decode cX4_leastTenths 85 = .ok (.lload 6, 2) := by decide +kernel
theorem dX4_leastTenths_87 : decode cX4_leastTenths 87 = .ok (.iload 4, 2) := by decide +kernel
theorem dX4_leastTenths_89 : decode cX4_leastTenths 89 = .ok (.iload 5, 2) := by decide +kernel
theorem dX4_leastTenths_91 : decode cX4_leastTenths 91 = .ok (.iadd, 1) := by decide +kernel
theorem dX4_leastTenths_92 : decode cX4_leastTenths 92 = .ok (.i2l, 1) := by decide +kernel
theorem dX4_leastTenths_93 : decode cX4_leastTenths 93 = .ok (.lmul, 1) := by decide +kernel
theorem dX4_leastTenths_94 : decode cX4_leastTenths 94 = .ok (.lstore 6, 2) := by decide +kernel
theorem dX4_leastTenths_96 : decode cX4_leastTenths 96 = .ok (.iinc 8 1, 3) := by decide +kernel
theorem dX4_leastTenths_99 : decode cX4_leastTenths 99 = .ok (.goto (-27), 3) := by decide +kernel
theorem dX4_leastTenths_102 : decode cX4_leastTenths 102 = .ok (.lload 6, 2) := by decide +kernel
theorem dX4_leastTenths_104 : decode cX4_leastTenths 104 = .ok (.lload_n 2, 1) := by decide +kernel
theorem dX4_leastTenths_105 : decode cX4_leastTenths 105 = .ok (.lcmp, 1) := by decide +kernel
theorem dX4_leastTenths_106 : decode cX4_leastTenths 106 = .ok (.ifCond .ge 11, 3) := by decide +kernel
theorem dX4_leastTenths_109 : decode cX4_leastTenths 109 = .ok (.iload 4, 2) := by decide +kernel
theorem dX4_leastTenths_111 : decode cX4_leastTenths 111 = .ok (.iload 5, 2) := by decide +kernel
theorem dX4_leastTenths_113 : decode cX4_leastTenths 113 = .ok (.iadd, 1) := by decide +kernel
theorem dX4_leastTenths_114 : decode cX4_leastTenths 114 = .ok (.goto 5, 3) := by decide +kernel
theorem dX4_leastTenths_117 : decode cX4_leastTenths 117 = .ok (.iload 4, 2) := by decide +kernel
theorem dX4_leastTenths_119 : decode cX4_leastTenths 119 = .ok (.istore 4, 2) := by decide +kernel
theorem dX4_leastTenths_121 : decode cX4_leastTenths 121 = .ok (.iload 5, 2) := by decide +kernel
theorem dX4_leastTenths_123 : decode cX4_leastTenths 123 = .ok (.iconst 2, 1) := by decide +kernel
theorem dX4_leastTenths_124 : decode cX4_leastTenths 124 = .ok (.idiv, 1) := by decide +kernel
theorem dX4_leastTenths_125 : decode cX4_leastTenths 125 = .ok (.istore 5, 2) := by decide +kernel
theorem dX4_leastTenths_127 : decode cX4_leastTenths 127 = .ok (.goto (-68), 3) := by decide +kernel
theorem dX4_leastTenths_130 : decode cX4_leastTenths 130 = .ok (.iload 4, 2) := by decide +kernel
theorem dX4_leastTenths_132 : decode cX4_leastTenths 132 = .ok (.iconst 1, 1) := by decide +kernel
theorem dX4_leastTenths_133 : decode cX4_leastTenths 133 = .ok (.iadd, 1) := by decide +kernel
theorem dX4_leastTenths_134 : decode cX4_leastTenths 134 = .ok (.ireturn, 1) := by decide +kernel
theorem dX4_sizeStages_0 : decode cX4_sizeStages 0 = .ok (.aload_n 0, 1) := by decide +kernel
theorem dX4_sizeStages_1 : decode cX4_sizeStages 1 = .ok (.getfield 39, 3) := by decide +kernel
theorem dX4_sizeStages_4 : decode cX4_sizeStages 4 = .ok (.istore_n 1, 1) := by decide +kernel
theorem dX4_sizeStages_5 : decode cX4_sizeStages 5 = .ok (.aload_n 0, 1) := by decide +kernel
theorem dX4_sizeStages_6 : decode cX4_sizeStages 6 = .ok (.getfield 48, 3) := by decide +kernel
theorem dX4_sizeStages_9 : decode cX4_sizeStages 9 = .ok (.iconst 1, 1) := by decide +kernel
theorem dX4_sizeStages_10 : decode cX4_sizeStages 10 = .ok (.isub, 1) := by decide +kernel
theorem dX4_sizeStages_11 : decode cX4_sizeStages 11 = .ok (.istore_n 2, 1) := by decide +kernel
theorem dX4_sizeStages_12 : decode cX4_sizeStages 12 = .ok (.iload_n 2, 1) := by decide +kernel
theorem dX4_sizeStages_13 : decode cX4_sizeStages 13 = .ok (.ifCond .lt 84, 3) := by decide +kernel
theorem dX4_sizeStages_16 : decode cX4_sizeStages 16 = .ok (.iconst 1, 1) := by decide +kernel
theorem dX4_sizeStages_17 : decode cX4_sizeStages 17 = .ok (.istore_n 3, 1) := by decide +kernel
theorem dX4_sizeStages_18 : decode cX4_sizeStages 18 = .ok (.iload_n 2, 1) := by decide +kernel
theorem dX4_sizeStages_19 : decode cX4_sizeStages 19 = .ok (.aload_n 0, 1) := by decide +kernel
theorem dX4_sizeStages_20 : decode cX4_sizeStages 20 = .ok (.getfield 48, 3) := by decide +kernel
theorem dX4_sizeStages_23 : decode cX4_sizeStages 23 = .ok (.iconst 1, 1) := by decide +kernel
theorem dX4_sizeStages_24 : decode cX4_sizeStages 24 = .ok (.isub, 1) := by decide +kernel
theorem dX4_sizeStages_25 : decode cX4_sizeStages 25 = .ok (.if_icmp .ne 11, 3) := by decide +kernel
theorem dX4_sizeStages_28 : decode cX4_sizeStages 28 = .ok (.aload_n 0, 1) := by decide +kernel
theorem dX4_sizeStages_29 : decode cX4_sizeStages 29 = .ok (.getfield 79, 3) := by decide +kernel
theorem dX4_sizeStages_32 : decode cX4_sizeStages 32 = .ok (.istore_n 3, 1) := by decide +kernel
theorem dX4_sizeStages_33 : decode cX4_sizeStages 33 = .ok (.goto 28, 3) := by decide +kernel
theorem dX4_sizeStages_36 : decode cX4_sizeStages 36 = .ok (.iload_n 2, 1) := by decide +kernel
theorem dX4_sizeStages_37 : decode cX4_sizeStages 37 = .ok (.ifCond .ne 24, 3) := by decide +kernel
theorem dX4_sizeStages_40 : decode cX4_sizeStages 40 = .ok (.aload_n 0, 1) := by decide +kernel
theorem dX4_sizeStages_41 : decode cX4_sizeStages 41 = .ok (.getfield 72, 3) := by decide +kernel
theorem dX4_sizeStages_44 : decode cX4_sizeStages 44 = .ok (.istore_n 3, 1) := by decide +kernel
theorem dX4_sizeStages_45 : decode cX4_sizeStages 45 = .ok (.iload_n 1, 1) := by decide +kernel
theorem dX4_sizeStages_46 : decode cX4_sizeStages 46 = .ok (.aload_n 0, 1) := by decide +kernel
theorem dX4_sizeStages_47 : decode cX4_sizeStages 47 = .ok (.getfield 27, 3) := by decide +kernel
theorem dX4_sizeStages_50 : decode cX4_sizeStages 50 = .ok (.imul, 1) := by decide +kernel
theorem dX4_sizeStages_51 : decode cX4_sizeStages 51 = .ok (.iconst 1, 1) := by decide +kernel
theorem dX4_sizeStages_52 : decode cX4_sizeStages 52 = .ok (.aload_n 0, 1) := by decide +kernel
theorem dX4_sizeStages_53 : decode cX4_sizeStages 53 = .ok (.getfield 72, 3) := by decide +kernel
theorem dX4_sizeStages_56 : decode cX4_sizeStages 56 = .ok (.ishl, 1) := by decide +kernel
theorem dX4_sizeStages_57 : decode cX4_sizeStages 57 = .ok (.invokestatic 75, 3) := by decide +kernel
theorem dX4_sizeStages_60 : decode cX4_sizeStages 60 = .ok (.istore_n 1, 1) := by decide +kernel
theorem dX4_sizeStages_61 : decode cX4_sizeStages 61 = .ok (.aload_n 0, 1) := by decide +kernel
theorem dX4_sizeStages_62 : decode cX4_sizeStages 62 = .ok (.getfield 9, 3) := by decide +kernel
theorem dX4_sizeStages_65 : decode cX4_sizeStages 65 = .ok (.iload_n 2, 1) := by decide +kernel
theorem dX4_sizeStages_66 : decode cX4_sizeStages 66 = .ok (.iload_n 1, 1) := by decide +kernel
theorem dX4_sizeStages_67 : decode cX4_sizeStages 67 = .ok (.iload_n 3, 1) := by decide +kernel
theorem dX4_sizeStages_68 : decode cX4_sizeStages 68 = .ok (.iconst 2, 1) := by decide +kernel
theorem dX4_sizeStages_69 : decode cX4_sizeStages 69 = .ok (.iadd, 1) := by decide +kernel
theorem dX4_sizeStages_70 : decode cX4_sizeStages 70 = .ok (.imul, 1) := by decide +kernel
theorem dX4_sizeStages_71 : decode cX4_sizeStages 71 = .ok (.bipush 10, 2) := by decide +kernel
theorem dX4_sizeStages_73 : decode cX4_sizeStages 73 = .ok (.imul, 1) := by decide +kernel
theorem dX4_sizeStages_74 : decode cX4_sizeStages 74 = .ok (.iconst 3, 1) := by decide +kernel
theorem dX4_sizeStages_75 : decode cX4_sizeStages 75 = .ok (.aload_n 0, 1) := by decide +kernel
theorem dX4_sizeStages_76 : decode cX4_sizeStages 76 = .ok (.getfield 85, 3) := by decide +kernel
theorem dX4_sizeStages_79 : decode cX4_sizeStages 79 = .ok (.imul, 1) := by decide +kernel
theorem dX4_sizeStages_80 : decode cX4_sizeStages 80 = .ok (.invokestatic 75, 3) := by decide +kernel
theorem dX4_sizeStages_83 : decode cX4_sizeStages 83 = .ok (.iastore, 1) := by decide +kernel
theorem dX4_sizeStages_84 : decode cX4_sizeStages 84 = .ok (.aload_n 0, 1) := by decide +kernel
theorem dX4_sizeStages_85 : decode cX4_sizeStages 85 = .ok (.getfield 9, 3) := by decide +kernel
theorem dX4_sizeStages_88 : decode cX4_sizeStages 88 = .ok (.iload_n 2, 1) := by decide +kernel
theorem dX4_sizeStages_89 : decode cX4_sizeStages 89 = .ok (.iaload, 1) := by decide +kernel
theorem dX4_sizeStages_90 : decode cX4_sizeStages 90 = .ok (.istore_n 1, 1) := by decide +kernel
theorem dX4_sizeStages_91 : decode cX4_sizeStages 91 = .ok (.iinc 2 (-1), 3) := by decide +kernel
theorem dX4_sizeStages_94 : decode cX4_sizeStages 94 = .ok (.goto (-82), 3) := by decide +kernel
theorem dX4_sizeStages_97 : decode cX4_sizeStages 97 = .ok (.return_, 1) := by decide +kernel
theorem dX4_mostPulls_0 : decode cX4_mostPulls 0 = .ok (.bipush 16, 2) := by decide +kernel
theorem dX4_mostPulls_2 : decode cX4_mostPulls 2 = .ok (.istore_n 2, 1) := by decide +kernel
theorem dX4_mostPulls_3 : decode cX4_mostPulls 3 = .ok (.iload_n 2, 1) := by decide +kernel
theorem dX4_mostPulls_4 : decode cX4_mostPulls 4 = .ok (.iconst 1, 1) := by decide +kernel
theorem dX4_mostPulls_5 : decode cX4_mostPulls 5 = .ok (.if_icmp .le 38, 3) := by decide +kernel
theorem dX4_mostPulls_8 : decode cX4_mostPulls 8 = .ok (.bipush 40, 2) := by decide +kernel
theorem dX4_mostPulls_10 : decode cX4_mostPulls 10 = .ok (.bipush 30, 2) := by decide +kernel
theorem dX4_mostPulls_12 : decode cX4_mostPulls 12 = .ok (.aload_n 0, 1) := by decide +kernel
theorem dX4_mostPulls_13 : decode cX4_mostPulls 13 = .ok (.getfield 36, 3) := by decide +kernel
theorem dX4_mostPulls_16 : decode cX4_mostPulls 16 = .ok (.imul, 1) := by decide +kernel
theorem dX4_mostPulls_17 : decode cX4_mostPulls 17 = .ok (.iload_n 2, 1) := by decide +kernel
theorem dX4_mostPulls_18 : decode cX4_mostPulls 18 = .ok (.idiv, 1) := by decide +kernel
theorem dX4_mostPulls_19 : decode cX4_mostPulls 19 = .ok (.iadd, 1) := by decide +kernel
theorem dX4_mostPulls_20 : decode cX4_mostPulls 20 = .ok (.bipush 100, 2) := by decide +kernel
theorem dX4_mostPulls_22 : decode cX4_mostPulls 22 = .ok (.imul, 1) := by decide +kernel
theorem dX4_mostPulls_23 : decode cX4_mostPulls 23 = .ok (.aload_n 0, 1) := by decide +kernel
theorem dX4_mostPulls_24 : decode cX4_mostPulls 24 = .ok (.getfield 60, 3) := by decide +kernel
theorem dX4_mostPulls_27 : decode cX4_mostPulls 27 = .ok (.bipush 100, 2) := by decide +kernel
theorem dX4_mostPulls_29 : decode cX4_mostPulls 29 = .ok (.iload_n 1, 1) := by decide +kernel
theorem dX4_mostPulls_30 : decode cX4_mostPulls 30 = .ok (.iadd, 1) := by decide +kernel
theorem dX4_mostPulls_31 : decode cX4_mostPulls 31 = .ok (.imul, 1) := by decide +kernel
theorem dX4_mostPulls_32 : decode cX4_mostPulls 32 = .ok (.if_icmp .lt 5, 3) := by decide +kernel
theorem dX4_mostPulls_35 : decode cX4_mostPulls 35 = .ok (.iload_n 2, 1) := by decide +kernel
theorem dX4_mostPulls_36 : decode cX4_mostPulls 36 = .ok (.ireturn, 1) := by decide +kernel
theorem dX4_mostPulls_37 : decode cX4_mostPulls 37 = .ok (.iinc 2 (-1), 3) := by decide +kernel
theorem dX4_mostPulls_40 : decode cX4_mostPulls 40 = .ok (.goto (-37), 3) := by decide +kernel
theorem dX4_mostPulls_43 : decode cX4_mostPulls 43 = .ok (.iconst 1, 1) := by decide +kernel
theorem dX4_mostPulls_44 : decode cX4_mostPulls 44 = .ok (.ireturn, 1) := by decide +kernel
theorem dX4_area_0 : decode cX4_area 0 = .ok (.aload_n 0, 1) := by decide +kernel
theorem dX4_area_1 : decode cX4_area 1 = .ok (.getfield 51, 3) := by decide +kernel
theorem dX4_area_4 : decode cX4_area 4 = .ok (.aload_n 0, 1) := by decide +kernel
theorem dX4_area_5 : decode cX4_area 5 = .ok (.getfield 54, 3) := by decide +kernel
theorem dX4_area_8 : decode cX4_area 8 = .ok (.imul, 1) := by decide +kernel
theorem dX4_area_9 : decode cX4_area 9 = .ok (.ireturn, 1) := by decide +kernel
theorem dX4_readTime_0 : decode cX4_readTime 0 = .ok (.aload_n 0, 1) := by decide +kernel
theorem dX4_readTime_1 : decode cX4_readTime 1 = .ok (.getfield 91, 3) := by decide +kernel
theorem dX4_readTime_4 : decode cX4_readTime 4 = .ok (.aload_n 0, 1) := by decide +kernel
theorem dX4_readTime_5 : decode cX4_readTime 5 = .ok (.getfield 57, 3) := by decide +kernel
theorem dX4_readTime_8 : decode cX4_readTime 8 = .ok (.iadd, 1) := by decide +kernel
theorem dX4_readTime_9 : decode cX4_readTime 9 = .ok (.aload_n 0, 1) := by decide +kernel
theorem dX4_readTime_10 : decode cX4_readTime 10 = .ok (.getfield 60, 3) := by decide +kernel
theorem dX4_readTime_13 : decode cX4_readTime 13 = .ok (.iadd, 1) := by decide +kernel
theorem dX4_readTime_14 : decode cX4_readTime 14 = .ok (.aload_n 0, 1) := by decide +kernel
theorem dX4_readTime_15 : decode cX4_readTime 15 = .ok (.getfield 63, 3) := by decide +kernel
theorem dX4_readTime_18 : decode cX4_readTime 18 = .ok (.iadd, 1) := by decide +kernel
theorem dX4_readTime_19 : decode cX4_readTime 19 = .ok (.ireturn, 1) := by decide +kernel
theorem dX4_cycle_0 : decode cX4_cycle 0 = .ok (.aload_n 0, 1) := by decide +kernel
theorem dX4_cycle_1 : decode cX4_cycle 1 = .ok (.getfield 69, 3) := by decide +kernel
theorem dX4_cycle_4 : decode cX4_cycle 4 = .ok (.iconst 1, 1) := by decide +kernel
theorem dX4_cycle_5 : decode cX4_cycle 5 = .ok (.if_icmp .ge 7, 3) := by decide +kernel
theorem dX4_cycle_8 : decode cX4_cycle 8 = .ok (.iconst 0, 1) := by decide +kernel
theorem dX4_cycle_9 : decode cX4_cycle 9 = .ok (.goto 15, 3) := by decide +kernel
theorem dX4_cycle_12 : decode cX4_cycle 12 = .ok (.bipush 30, 2) := by decide +kernel
theorem dX4_cycle_14 : decode cX4_cycle 14 = .ok (.aload_n 0, 1) := by decide +kernel
theorem dX4_cycle_15 : decode cX4_cycle 15 = .ok (.getfield 36, 3) := by decide +kernel
theorem dX4_cycle_18 : decode cX4_cycle 18 = .ok (.imul, 1) := by decide +kernel
theorem dX4_cycle_19 : decode cX4_cycle 19 = .ok (.aload_n 0, 1) := by decide +kernel
theorem dX4_cycle_20 : decode cX4_cycle 20 = .ok (.getfield 69, 3) := by decide +kernel
theorem dX4_cycle_23 : decode cX4_cycle 23 = .ok (.idiv, 1) := by decide +kernel
theorem dX4_cycle_24 : decode cX4_cycle 24 = .ok (.istore_n 1, 1) := by decide +kernel
theorem dX4_cycle_25 : decode cX4_cycle 25 = .ok (.aload_n 0, 1) := by decide +kernel
theorem dX4_cycle_26 : decode cX4_cycle 26 = .ok (.getfield 91, 3) := by decide +kernel
theorem dX4_cycle_29 : decode cX4_cycle 29 = .ok (.aload_n 0, 1) := by decide +kernel
theorem dX4_cycle_30 : decode cX4_cycle 30 = .ok (.getfield 57, 3) := by decide +kernel
theorem dX4_cycle_33 : decode cX4_cycle 33 = .ok (.iadd, 1) := by decide +kernel
theorem dX4_cycle_34 : decode cX4_cycle 34 = .ok (.aload_n 0, 1) := by decide +kernel
theorem dX4_cycle_35 : decode cX4_cycle 35 = .ok (.getfield 63, 3) := by decide +kernel
theorem dX4_cycle_38 : decode cX4_cycle 38 = .ok (.iadd, 1) := by decide +kernel
theorem dX4_cycle_39 : decode cX4_cycle 39 = .ok (.bipush 40, 2) := by decide +kernel
theorem dX4_cycle_41 : decode cX4_cycle 41 = .ok (.iadd, 1) := by decide +kernel
theorem dX4_cycle_42 : decode cX4_cycle 42 = .ok (.iload_n 1, 1) := by decide +kernel
theorem dX4_cycle_43 : decode cX4_cycle 43 = .ok (.iadd, 1) := by decide +kernel
theorem dX4_cycle_44 : decode cX4_cycle 44 = .ok (.ireturn, 1) := by decide +kernel
theorem dX4_tell_0 : decode cX4_tell 0 = .ok (.iload_n 1, 1) := by decide +kernel
theorem dX4_tell_1 : decode cX4_tell 1 = .ok (.tableswitch 132 0 12 #[67, 72, 77, 82, 87, 92, 97, 102, 107, 112, 117, 122, 127], 67) := by decide +kernel
theorem dX4_tell_68 : decode cX4_tell 68 = .ok (.aload_n 0, 1) := by decide +kernel
theorem dX4_tell_69 : decode cX4_tell 69 = .ok (.getfield 27, 3) := by decide +kernel
theorem dX4_tell_72 : decode cX4_tell 72 = .ok (.ireturn, 1) := by decide +kernel
theorem dX4_tell_73 : decode cX4_tell 73 = .ok (.aload_n 0, 1) := by decide +kernel
theorem dX4_tell_74 : decode cX4_tell 74 = .ok (.getfield 33, 3) := by decide +kernel
theorem dX4_tell_77 : decode cX4_tell 77 = .ok (.ireturn, 1) := by decide +kernel
theorem dX4_tell_78 : decode cX4_tell 78 = .ok (.aload_n 0, 1) := by decide +kernel
theorem dX4_tell_79 : decode cX4_tell 79 = .ok (.getfield 51, 3) := by decide +kernel
theorem dX4_tell_82 : decode cX4_tell 82 = .ok (.ireturn, 1) := by decide +kernel
theorem dX4_tell_83 : decode cX4_tell 83 = .ok (.aload_n 0, 1) := by decide +kernel
theorem dX4_tell_84 : decode cX4_tell 84 = .ok (.getfield 54, 3) := by decide +kernel
theorem dX4_tell_87 : decode cX4_tell 87 = .ok (.ireturn, 1) := by decide +kernel
theorem dX4_tell_88 : decode cX4_tell 88 = .ok (.aload_n 0, 1) := by decide +kernel
theorem dX4_tell_89 : decode cX4_tell 89 = .ok (.invokevirtual 100, 3) := by decide +kernel
theorem dX4_tell_92 : decode cX4_tell 92 = .ok (.ireturn, 1) := by decide +kernel
theorem dX4_tell_93 : decode cX4_tell 93 = .ok (.aload_n 0, 1) := by decide +kernel
theorem dX4_tell_94 : decode cX4_tell 94 = .ok (.invokevirtual 104, 3) := by decide +kernel
theorem dX4_tell_97 : decode cX4_tell 97 = .ok (.ireturn, 1) := by decide +kernel
theorem dX4_tell_98 : decode cX4_tell 98 = .ok (.aload_n 0, 1) := by decide +kernel
theorem dX4_tell_99 : decode cX4_tell 99 = .ok (.invokevirtual 107, 3) := by decide +kernel
theorem dX4_tell_102 : decode cX4_tell 102 = .ok (.ireturn, 1) := by decide +kernel
theorem dX4_tell_103 : decode cX4_tell 103 = .ok (.aload_n 0, 1) := by decide +kernel
theorem dX4_tell_104 : decode cX4_tell 104 = .ok (.getfield 48, 3) := by decide +kernel
theorem dX4_tell_107 : decode cX4_tell 107 = .ok (.ireturn, 1) := by decide +kernel
theorem dX4_tell_108 : decode cX4_tell 108 = .ok (.aload_n 0, 1) := by decide +kernel
theorem dX4_tell_109 : decode cX4_tell 109 = .ok (.getfield 85, 3) := by decide +kernel
theorem dX4_tell_112 : decode cX4_tell 112 = .ok (.ireturn, 1) := by decide +kernel
theorem dX4_tell_113 : decode cX4_tell 113 = .ok (.aload_n 0, 1) := by decide +kernel
theorem dX4_tell_114 : decode cX4_tell 114 = .ok (.getfield 91, 3) := by decide +kernel
theorem dX4_tell_117 : decode cX4_tell 117 = .ok (.ireturn, 1) := by decide +kernel
theorem dX4_tell_118 : decode cX4_tell 118 = .ok (.aload_n 0, 1) := by decide +kernel
theorem dX4_tell_119 : decode cX4_tell 119 = .ok (.getfield 69, 3) := by decide +kernel
theorem dX4_tell_122 : decode cX4_tell 122 = .ok (.ireturn, 1) := by decide +kernel
theorem dX4_tell_123 : decode cX4_tell 123 = .ok (.aload_n 0, 1) := by decide +kernel
theorem dX4_tell_124 : decode cX4_tell 124 = .ok (.getfield 57, 3) := by decide +kernel
theorem dX4_tell_127 : decode cX4_tell 127 = .ok (.ireturn, 1) := by decide +kernel
theorem dX4_tell_128 : decode cX4_tell 128 = .ok (.aload_n 0, 1) := by decide +kernel
theorem dX4_tell_129 : decode cX4_tell 129 = .ok (.getfield 60, 3) := by decide +kernel
theorem dX4_tell_132 : decode cX4_tell 132 = .ok (.ireturn, 1) := by decide +kernel
theorem dX4_tell_133 : decode cX4_tell 133 = .ok (.iload_n 1, 1) := by decide +kernel
theorem dX4_tell_134 : decode cX4_tell 134 = .ok (.bipush 20, 2) := by decide +kernel
theorem dX4_tell_136 : decode cX4_tell 136 = .ok (.if_icmp .lt 26, 3) := by decide +kernel
theorem dX4_tell_139 : decode cX4_tell 139 = .ok (.iload_n 1, 1) := by decide +kernel
theorem dX4_tell_140 : decode cX4_tell 140 = .ok (.bipush 20, 2) := by decide +kernel
theorem dX4_tell_142 : decode cX4_tell 142 = .ok (.aload_n 0, 1) := by decide +kernel
theorem dX4_tell_143 : decode cX4_tell 143 = .ok (.getfield 48, 3) := by decide +kernel
theorem dX4_tell_146 : decode cX4_tell 146 = .ok (.iadd, 1) := by decide +kernel
theorem dX4_tell_147 : decode cX4_tell 147 = .ok (.if_icmp .ge 15, 3) := by decide +kernel
theorem dX4_tell_150 : decode cX4_tell 150 = .ok (.aload_n 0, 1) := by decide +kernel
theorem dX4_tell_151 : decode cX4_tell 151 = .ok (.getfield 9, 3) := by decide +kernel
theorem dX4_tell_154 : decode cX4_tell 154 = .ok (.iload_n 1, 1) := by decide +kernel
theorem dX4_tell_155 : decode cX4_tell 155 = .ok (.bipush 20, 2) := by decide +kernel
theorem dX4_tell_157 : decode cX4_tell 157 = .ok (.isub, 1) := by decide +kernel
theorem dX4_tell_158 : decode cX4_tell 158 = .ok (.iaload, 1) := by decide +kernel
theorem dX4_tell_159 : decode cX4_tell 159 = .ok (.goto 4, 3) := by decide +kernel
theorem dX4_tell_162 : decode cX4_tell 162 = .ok (.iconst (-1), 1) := by decide +kernel
theorem dX4_tell_163 : decode cX4_tell 163 = .ok (.ireturn, 1) := by decide +kernel
theorem dX4_cost_0 : decode cX4_cost 0 = .ok (.iload_n 1, 1) := by decide +kernel
theorem dX4_cost_1 : decode cX4_cost 1 = .ok (.lookupswitch 37 #[(0, 27), (1, 32)], 27) := by decide +kernel
theorem dX4_cost_28 : decode cX4_cost 28 = .ok (.aload_n 0, 1) := by decide +kernel
theorem dX4_cost_29 : decode cX4_cost 29 = .ok (.invokevirtual 100, 3) := by decide +kernel
theorem dX4_cost_32 : decode cX4_cost 32 = .ok (.ireturn, 1) := by decide +kernel
theorem dX4_cost_33 : decode cX4_cost 33 = .ok (.aload_n 0, 1) := by decide +kernel
theorem dX4_cost_34 : decode cX4_cost 34 = .ok (.invokevirtual 107, 3) := by decide +kernel
theorem dX4_cost_37 : decode cX4_cost 37 = .ok (.ireturn, 1) := by decide +kernel
theorem dX4_cost_38 : decode cX4_cost 38 = .ok (.aload_n 0, 1) := by decide +kernel
theorem dX4_cost_39 : decode cX4_cost 39 = .ok (.getfield 51, 3) := by decide +kernel
theorem dX4_cost_42 : decode cX4_cost 42 = .ok (.aload_n 0, 1) := by decide +kernel
theorem dX4_cost_43 : decode cX4_cost 43 = .ok (.getfield 54, 3) := by decide +kernel
theorem dX4_cost_46 : decode cX4_cost 46 = .ok (.isub, 1) := by decide +kernel
theorem dX4_cost_47 : decode cX4_cost 47 = .ok (.invokestatic 110, 3) := by decide +kernel
theorem dX4_cost_50 : decode cX4_cost 50 = .ok (.ireturn, 1) := by decide +kernel
theorem dX4_choose_0 : decode cX4_choose 0 = .ok (.iconst (-1), 1) := by decide +kernel
theorem dX4_choose_1 : decode cX4_choose 1 = .ok (.istore_n 3, 1) := by decide +kernel
theorem dX4_choose_2 : decode cX4_choose 2 = .ok (.iconst 0, 1) := by decide +kernel
theorem dX4_choose_3 : decode cX4_choose 3 = .ok (.istore 4, 2) := by decide +kernel
theorem dX4_choose_5 : decode cX4_choose 5 = .ok (.iconst 0, 1) := by decide +kernel
theorem dX4_choose_6 : decode cX4_choose 6 = .ok (.istore 5, 2) := by decide +kernel
theorem dX4_choose_8 : decode cX4_choose 8 = .ok (.iload 5, 2) := by decide +kernel
theorem dX4_choose_10 : decode cX4_choose 10 = .ok (.iconst 3, 1) := by decide +kernel
theorem dX4_choose_11 : decode cX4_choose 11 = .ok (.if_icmp .gt 51, 3) := by decide +kernel
theorem dX4_choose_14 : decode cX4_choose 14 = .ok (.aload_n 0, 1) := by decide +kernel
theorem dX4_choose_15 : decode cX4_choose 15 = .ok (.aload_n 1, 1) := by decide +kernel
theorem dX4_choose_16 : decode cX4_choose 16 = .ok (.aload_n 1, 1) := by decide +kernel
theorem dX4_choose_17 : decode cX4_choose 17 = .ok (.iconst 0, 1) := by decide +kernel
theorem dX4_choose_18 : decode cX4_choose 18 = .ok (.iaload, 1) := by decide +kernel
theorem dX4_choose_19 : decode cX4_choose 19 = .ok (.iconst 1, 1) := by decide +kernel
theorem dX4_choose_20 : decode cX4_choose 20 = .ok (.iload 5, 2) := by decide +kernel
theorem dX4_choose_22 : decode cX4_choose 22 = .ok (.ishl, 1) := by decide +kernel
theorem dX4_choose_23 : decode cX4_choose 23 = .ok (.invokevirtual 115, 3) := by decide +kernel
theorem dX4_choose_26 : decode cX4_choose 26 = .ok (.ifCond .eq 30, 3) := by decide +kernel
theorem dX4_choose_29 : decode cX4_choose 29 = .ok (.iload_n 3, 1) := by decide +kernel
theorem dX4_choose_30 : decode cX4_choose 30 = .ok (.iconst (-1), 1) := by decide +kernel
theorem dX4_choose_31 : decode cX4_choose 31 = .ok (.if_icmp .eq 13, 3) := by decide +kernel
theorem dX4_choose_34 : decode cX4_choose 34 = .ok (.aload_n 0, 1) := by decide +kernel
theorem dX4_choose_35 : decode cX4_choose 35 = .ok (.iload_n 2, 1) := by decide +kernel
theorem dX4_choose_36 : decode cX4_choose 36 = .ok (.invokevirtual 119, 3) := by decide +kernel
theorem dX4_choose_39 : decode cX4_choose 39 = .ok (.iload 4, 2) := by decide +kernel
theorem dX4_choose_41 : decode cX4_choose 41 = .ok (.if_icmp .ge 15, 3) := by decide +kernel
theorem dX4_choose_44 : decode cX4_choose 44 = .ok (.iconst 1, 1) := by decide +kernel
theorem dX4_choose_45 : decode cX4_choose 45 = .ok (.iload 5, 2) := by decide +kernel
theorem dX4_choose_47 : decode cX4_choose 47 = .ok (.ishl, 1) := by decide +kernel
theorem dX4_choose_48 : decode cX4_choose 48 = .ok (.istore_n 3, 1) := by decide +kernel
theorem dX4_choose_49 : decode cX4_choose 49 = .ok (.aload_n 0, 1) := by decide +kernel
theorem dX4_choose_50 : decode cX4_choose 50 = .ok (.iload_n 2, 1) := by decide +kernel
theorem dX4_choose_51 : decode cX4_choose 51 = .ok (.invokevirtual 119, 3) := by decide +kernel
theorem dX4_choose_54 : decode cX4_choose 54 = .ok (.istore 4, 2) := by decide +kernel
theorem dX4_choose_56 : decode cX4_choose 56 = .ok (.iinc 5 1, 3) := by decide +kernel
theorem dX4_choose_59 : decode cX4_choose 59 = .ok (.goto (-51), 3) := by decide +kernel
theorem dX4_choose_62 : decode cX4_choose 62 = .ok (.iload_n 3, 1) := by decide +kernel
theorem dX4_choose_63 : decode cX4_choose 63 = .ok (.ireturn, 1) := by decide +kernel
theorem dX4_muxOf_0 : decode cX4_muxOf 0 = .ok (.aload_n 1, 1) := by decide +kernel
theorem dX4_muxOf_1 : decode cX4_muxOf 1 = .ok (.iconst 2, 1) := by decide +kernel
theorem dX4_muxOf_2 : decode cX4_muxOf 2 = .ok (.iaload, 1) := by decide +kernel
theorem dX4_muxOf_3 : decode cX4_muxOf 3 = .ok (.ifCond .ne 15, 3) := by decide +kernel
theorem dX4_muxOf_6 : decode cX4_muxOf 6 = .ok (.aload_n 0, 1) := by decide +kernel
theorem dX4_muxOf_7 : decode cX4_muxOf 7 = .ok (.aload_n 1, 1) := by decide +kernel
theorem dX4_muxOf_8 : decode cX4_muxOf 8 = .ok (.aload_n 1, 1) := by decide +kernel
theorem dX4_muxOf_9 : decode cX4_muxOf 9 = .ok (.bipush 8, 2) := by decide +kernel
theorem dX4_muxOf_11 : decode cX4_muxOf 11 = .ok (.iaload, 1) := by decide +kernel
theorem dX4_muxOf_12 : decode cX4_muxOf 12 = .ok (.invokevirtual 122, 3) := by decide +kernel
theorem dX4_muxOf_15 : decode cX4_muxOf 15 = .ok (.goto 6, 3) := by decide +kernel
theorem dX4_muxOf_18 : decode cX4_muxOf 18 = .ok (.aload_n 1, 1) := by decide +kernel
theorem dX4_muxOf_19 : decode cX4_muxOf 19 = .ok (.iconst 2, 1) := by decide +kernel
theorem dX4_muxOf_20 : decode cX4_muxOf 20 = .ok (.iaload, 1) := by decide +kernel
theorem dX4_muxOf_21 : decode cX4_muxOf 21 = .ok (.ireturn, 1) := by decide +kernel
theorem dX5_init_0 : decode cX5_init 0 = .ok (.aload_n 0, 1) := by decide +kernel
theorem dX5_init_1 : decode cX5_init 1 = .ok (.invokespecial 3, 3) := by decide +kernel
theorem dX5_init_4 : decode cX5_init 4 = .ok (.aload_n 0, 1) := by decide +kernel
theorem dX5_init_5 : decode cX5_init 5 = .ok (.bipush 9, 2) := by decide +kernel
theorem dX5_init_7 : decode cX5_init 7 = .ok (.newarray .int, 2) := by decide +kernel
theorem dX5_init_9 : decode cX5_init 9 = .ok (.putfield 9, 3) := by decide +kernel
theorem dX5_init_12 : decode cX5_init 12 = .ok (.aload_n 0, 1) := by decide +kernel
theorem dX5_init_13 : decode cX5_init 13 = .ok (.bipush 12, 2) := by decide +kernel
theorem dX5_init_15 : decode cX5_init 15 = .ok (.newarray .int, 2) := by decide +kernel
theorem dX5_init_17 : decode cX5_init 17 = .ok (.putfield 15, 3) := by decide +kernel
theorem dX5_init_20 : decode cX5_init 20 = .ok (.aload_n 0, 1) := by decide +kernel
theorem dX5_init_21 : decode cX5_init 21 = .ok (.bipush 12, 2) := by decide +kernel
theorem dX5_init_23 : decode cX5_init 23 = .ok (.newarray .int, 2) := by decide +kernel
theorem dX5_init_25 : decode cX5_init 25 = .ok (.putfield 18, 3) := by decide +kernel
theorem dX5_init_28 : decode cX5_init 28 = .ok (.aload_n 0, 1) := by decide +kernel
theorem dX5_init_29 : decode cX5_init 29 = .ok (.bipush 12, 2) := by decide +kernel
theorem dX5_init_31 : decode cX5_init 31 = .ok (.newarray .int, 2) := by decide +kernel
theorem dX5_init_33 : decode cX5_init 33 = .ok (.putfield 21, 3) := by decide +kernel
theorem dX5_init_36 : decode cX5_init 36 = .ok (.aload_n 0, 1) := by decide +kernel
theorem dX5_init_37 : decode cX5_init 37 = .ok (.invokevirtual 24, 3) := by decide +kernel
theorem dX5_init_40 : decode cX5_init 40 = .ok (.return_, 1) := by decide +kernel
theorem dX5_toFirst_0 : decode cX5_toFirst 0 = .ok (.getstatic 27, 3) := by decide +kernel
theorem dX5_toFirst_3 : decode cX5_toFirst 3 = .ok (.iconst 0, 1) := by decide +kernel
theorem dX5_toFirst_4 : decode cX5_toFirst 4 = .ok (.aload_n 0, 1) := by decide +kernel
theorem dX5_toFirst_5 : decode cX5_toFirst 5 = .ok (.getfield 9, 3) := by decide +kernel
theorem dX5_toFirst_8 : decode cX5_toFirst 8 = .ok (.iconst 0, 1) := by decide +kernel
theorem dX5_toFirst_9 : decode cX5_toFirst 9 = .ok (.bipush 9, 2) := by decide +kernel
theorem dX5_toFirst_11 : decode cX5_toFirst 11 = .ok (.invokestatic 30, 3) := by decide +kernel
theorem dX5_toFirst_14 : decode cX5_toFirst 14 = .ok (.aload_n 0, 1) := by decide +kernel
theorem dX5_toFirst_15 : decode cX5_toFirst 15 = .ok (.iconst 0, 1) := by decide +kernel
theorem dX5_toFirst_16 : decode cX5_toFirst 16 = .ok (.putfield 36, 3) := by decide +kernel
theorem dX5_toFirst_19 : decode cX5_toFirst 19 = .ok (.return_, 1) := by decide +kernel
theorem dX5_copyFrom_0 : decode cX5_copyFrom 0 = .ok (.aload_n 1, 1) := by decide +kernel
theorem dX5_copyFrom_1 : decode cX5_copyFrom 1 = .ok (.getfield 9, 3) := by decide +kernel
theorem dX5_copyFrom_4 : decode cX5_copyFrom 4 = .ok (.iconst 0, 1) := by decide +kernel
theorem dX5_copyFrom_5 : decode cX5_copyFrom 5 = .ok (.aload_n 0, 1) := by decide +kernel
theorem dX5_copyFrom_6 : decode cX5_copyFrom 6 = .ok (.getfield 9, 3) := by decide +kernel
theorem dX5_copyFrom_9 : decode cX5_copyFrom 9 = .ok (.iconst 0, 1) := by decide +kernel
theorem dX5_copyFrom_10 : decode cX5_copyFrom 10 = .ok (.bipush 9, 2) := by decide +kernel
theorem dX5_copyFrom_12 : decode cX5_copyFrom 12 = .ok (.invokestatic 30, 3) := by decide +kernel
theorem dX5_copyFrom_15 : decode cX5_copyFrom 15 = .ok (.aload_n 1, 1) := by decide +kernel
theorem dX5_copyFrom_16 : decode cX5_copyFrom 16 = .ok (.getfield 15, 3) := by decide +kernel
theorem dX5_copyFrom_19 : decode cX5_copyFrom 19 = .ok (.iconst 0, 1) := by decide +kernel
theorem dX5_copyFrom_20 : decode cX5_copyFrom 20 = .ok (.aload_n 0, 1) := by decide +kernel
theorem dX5_copyFrom_21 : decode cX5_copyFrom 21 = .ok (.getfield 15, 3) := by decide +kernel
theorem dX5_copyFrom_24 : decode cX5_copyFrom 24 = .ok (.iconst 0, 1) := by decide +kernel
theorem dX5_copyFrom_25 : decode cX5_copyFrom 25 = .ok (.bipush 12, 2) := by decide +kernel
theorem dX5_copyFrom_27 : decode cX5_copyFrom 27 = .ok (.invokestatic 30, 3) := by decide +kernel
theorem dX5_copyFrom_30 : decode cX5_copyFrom 30 = .ok (.aload_n 1, 1) := by decide +kernel
theorem dX5_copyFrom_31 : decode cX5_copyFrom 31 = .ok (.getfield 18, 3) := by decide +kernel
theorem dX5_copyFrom_34 : decode cX5_copyFrom 34 = .ok (.iconst 0, 1) := by decide +kernel
theorem dX5_copyFrom_35 : decode cX5_copyFrom 35 = .ok (.aload_n 0, 1) := by decide +kernel
theorem dX5_copyFrom_36 : decode cX5_copyFrom 36 = .ok (.getfield 18, 3) := by decide +kernel
theorem dX5_copyFrom_39 : decode cX5_copyFrom 39 = .ok (.iconst 0, 1) := by decide +kernel
theorem dX5_copyFrom_40 : decode cX5_copyFrom 40 = .ok (.bipush 12, 2) := by decide +kernel
theorem dX5_copyFrom_42 : decode cX5_copyFrom 42 = .ok (.invokestatic 30, 3) := by decide +kernel
theorem dX5_copyFrom_45 : decode cX5_copyFrom 45 = .ok (.aload_n 1, 1) := by decide +kernel
theorem dX5_copyFrom_46 : decode cX5_copyFrom 46 = .ok (.getfield 21, 3) := by decide +kernel
theorem dX5_copyFrom_49 : decode cX5_copyFrom 49 = .ok (.iconst 0, 1) := by decide +kernel
theorem dX5_copyFrom_50 : decode cX5_copyFrom 50 = .ok (.aload_n 0, 1) := by decide +kernel
theorem dX5_copyFrom_51 : decode cX5_copyFrom 51 = .ok (.getfield 21, 3) := by decide +kernel
theorem dX5_copyFrom_54 : decode cX5_copyFrom 54 = .ok (.iconst 0, 1) := by decide +kernel
theorem dX5_copyFrom_55 : decode cX5_copyFrom 55 = .ok (.bipush 12, 2) := by decide +kernel
theorem dX5_copyFrom_57 : decode cX5_copyFrom 57 = .ok (.invokestatic 30, 3) := by decide +kernel
theorem dX5_copyFrom_60 : decode cX5_copyFrom 60 = .ok (.aload_n 0, 1) := by decide +kernel
theorem dX5_copyFrom_61 : decode cX5_copyFrom 61 = .ok (.aload_n 1, 1) := by decide +kernel
theorem dX5_copyFrom_62 : decode cX5_copyFrom 62 = .ok (.getfield 36, 3) := by decide +kernel
theorem dX5_copyFrom_65 : decode cX5_copyFrom 65 = .ok (.putfield 36, 3) := by decide +kernel
theorem dX5_copyFrom_68 : decode cX5_copyFrom 68 = .ok (.return_, 1) := by decide +kernel
theorem dX5_find_0 : decode cX5_find 0 = .ok (.iconst 0, 1) := by decide +kernel
theorem dX5_find_1 : decode cX5_find 1 = .ok (.istore_n 3, 1) := by decide +kernel
theorem dX5_find_2 : decode cX5_find 2 = .ok (.iload_n 3, 1) := by decide +kernel
theorem dX5_find_3 : decode cX5_find 3 = .ok (.aload_n 0, 1) := by decide +kernel
theorem dX5_find_4 : decode cX5_find 4 = .ok (.getfield 36, 3) := by decide +kernel
theorem dX5_find_7 : decode cX5_find 7 = .ok (.if_icmp .ge 31, 3) := by decide +kernel
theorem dX5_find_10 : decode cX5_find 10 = .ok (.aload_n 0, 1) := by decide +kernel
theorem dX5_find_11 : decode cX5_find 11 = .ok (.getfield 15, 3) := by decide +kernel
theorem dX5_find_14 : decode cX5_find 14 = .ok (.iload_n 3, 1) := by decide +kernel
theorem dX5_find_15 : decode cX5_find 15 = .ok (.iaload, 1) := by decide +kernel
theorem dX5_find_16 : decode cX5_find 16 = .ok (.iload_n 1, 1) := by decide +kernel
theorem dX5_find_17 : decode cX5_find 17 = .ok (.if_icmp .ne 15, 3) := by decide +kernel
theorem dX5_find_20 : decode cX5_find 20 = .ok (.aload_n 0, 1) := by decide +kernel
theorem dX5_find_21 : decode cX5_find 21 = .ok (.getfield 18, 3) := by decide +kernel
theorem dX5_find_24 : decode cX5_find 24 = .ok (.iload_n 3, 1) := by decide +kernel
theorem dX5_find_25 : decode cX5_find 25 = .ok (.iaload, 1) := by decide +kernel
theorem dX5_find_26 : decode cX5_find 26 = .ok (.iload_n 2, 1) := by decide +kernel
theorem dX5_find_27 : decode cX5_find 27 = .ok (.if_icmp .ne 5, 3) := by decide +kernel
theorem dX5_find_30 : decode cX5_find 30 = .ok (.iload_n 3, 1) := by decide +kernel
theorem dX5_find_31 : decode cX5_find 31 = .ok (.ireturn, 1) := by decide +kernel
theorem dX5_find_32 : decode cX5_find 32 = .ok (.iinc 3 1, 3) := by decide +kernel
theorem dX5_find_35 : decode cX5_find 35 = .ok (.goto (-33), 3) := by decide +kernel
theorem dX5_find_38 : decode cX5_find 38 = .ok (.iconst (-1), 1) := by decide +kernel
theorem dX5_find_39 : decode cX5_find 39 = .ok (.ireturn, 1) := by decide +kernel
theorem dX5_add_0 : decode cX5_add 0 = .ok (.aload_n 0, 1) := by decide +kernel
theorem dX5_add_1 : decode cX5_add 1 = .ok (.getfield 36, 3) := by decide +kernel
theorem dX5_add_4 : decode cX5_add 4 = .ok (.bipush 12, 2) := by decide +kernel
theorem dX5_add_6 : decode cX5_add 6 = .ok (.if_icmp .ge 43, 3) := by decide +kernel
theorem dX5_add_9 : decode cX5_add 9 = .ok (.aload_n 0, 1) := by decide +kernel
theorem dX5_add_10 : decode cX5_add 10 = .ok (.getfield 15, 3) := by decide +kernel
theorem dX5_add_13 : decode cX5_add 13 = .ok (.aload_n 0, 1) := by decide +kernel
theorem dX5_add_14 : decode cX5_add 14 = .ok (.getfield 36, 3) := by decide +kernel
theorem dX5_add_17 : decode cX5_add 17 = .ok (.iload_n 1, 1) := by decide +kernel
theorem dX5_add_18 : decode cX5_add 18 = .ok (.iastore, 1) := by decide +kernel
theorem dX5_add_19 : decode cX5_add 19 = .ok (.aload_n 0, 1) := by decide +kernel
theorem dX5_add_20 : decode cX5_add 20 = .ok (.getfield 18, 3) := by decide +kernel
theorem dX5_add_23 : decode cX5_add 23 = .ok (.aload_n 0, 1) := by decide +kernel
theorem dX5_add_24 : decode cX5_add 24 = .ok (.getfield 36, 3) := by decide +kernel
theorem dX5_add_27 : decode cX5_add 27 = .ok (.iload_n 2, 1) := by decide +kernel
theorem dX5_add_28 : decode cX5_add 28 = .ok (.iastore, 1) := by decide +kernel
theorem dX5_add_29 : decode cX5_add 29 = .ok (.aload_n 0, 1) := by decide +kernel
theorem dX5_add_30 : decode cX5_add 30 = .ok (.getfield 21, 3) := by decide +kernel
theorem dX5_add_33 : decode cX5_add 33 = .ok (.aload_n 0, 1) := by decide +kernel
theorem dX5_add_34 : decode cX5_add 34 = .ok (.getfield 36, 3) := by decide +kernel
theorem dX5_add_37 : decode cX5_add 37 = .ok (.iload_n 3, 1) := by decide +kernel
theorem dX5_add_38 : decode cX5_add 38 = .ok (.iastore, 1) := by decide +kernel
theorem dX5_add_39 : decode cX5_add 39 = .ok (.aload_n 0, 1) := by decide +kernel
theorem dX5_add_40 : decode cX5_add 40 = .ok (.dup, 1) := by decide +kernel
theorem dX5_add_41 : decode cX5_add 41 = .ok (.getfield 36, 3) := by decide +kernel
theorem dX5_add_44 : decode cX5_add 44 = .ok (.iconst 1, 1) := by decide +kernel
theorem dX5_add_45 : decode cX5_add 45 = .ok (.iadd, 1) := by decide +kernel
theorem dX5_add_46 : decode cX5_add 46 = .ok (.putfield 36, 3) := by decide +kernel
theorem dX5_add_49 : decode cX5_add 49 = .ok (.return_, 1) := by decide +kernel
theorem dX5_remove_0 : decode cX5_remove 0 = .ok (.iload_n 1, 1) := by decide +kernel
theorem dX5_remove_1 : decode cX5_remove 1 = .ok (.istore_n 2, 1) := by decide +kernel
theorem dX5_remove_2 : decode cX5_remove 2 = .ok (.iload_n 2, 1) := by decide +kernel
theorem dX5_remove_3 : decode cX5_remove 3 = .ok (.ifCond .lt 61, 3) := by decide +kernel
theorem dX5_remove_6 : decode cX5_remove 6 = .ok (.iload_n 2, 1) := by decide +kernel
theorem dX5_remove_7 : decode cX5_remove 7 = .ok (.iconst 1, 1) := by decide +kernel
theorem dX5_remove_8 : decode cX5_remove 8 = .ok (.iadd, 1) := by decide +kernel
theorem dX5_remove_9 : decode cX5_remove 9 = .ok (.aload_n 0, 1) := by decide +kernel
theorem dX5_remove_10 : decode cX5_remove 10 = .ok (.getfield 36, 3) := by decide +kernel
theorem dX5_remove_13 : decode cX5_remove 13 = .ok (.if_icmp .ge 51, 3) := by decide +kernel
theorem dX5_remove_16 : decode cX5_remove 16 = .ok (.aload_n 0, 1) := by decide +kernel
theorem dX5_remove_17 : decode cX5_remove 17 = .ok (.getfield 15, 3) := by decide +kernel
theorem dX5_remove_20 : decode cX5_remove 20 = .ok (.iload_n 2, 1) := by decide +kernel
theorem dX5_remove_21 : decode cX5_remove 21 = .ok (.aload_n 0, 1) := by decide +kernel
theorem dX5_remove_22 : decode cX5_remove 22 = .ok (.getfield 15, 3) := by decide +kernel
theorem dX5_remove_25 : decode cX5_remove 25 = .ok (.iload_n 2, 1) := by decide +kernel
theorem dX5_remove_26 : decode cX5_remove 26 = .ok (.iconst 1, 1) := by decide +kernel
theorem dX5_remove_27 : decode cX5_remove 27 = .ok (.iadd, 1) := by decide +kernel
theorem dX5_remove_28 : decode cX5_remove 28 = .ok (.iaload, 1) := by decide +kernel
theorem dX5_remove_29 : decode cX5_remove 29 = .ok (.iastore, 1) := by decide +kernel
theorem dX5_remove_30 : decode cX5_remove 30 = .ok (.aload_n 0, 1) := by decide +kernel
theorem dX5_remove_31 : decode cX5_remove 31 = .ok (.getfield 18, 3) := by decide +kernel
theorem dX5_remove_34 : decode cX5_remove 34 = .ok (.iload_n 2, 1) := by decide +kernel
theorem dX5_remove_35 : decode cX5_remove 35 = .ok (.aload_n 0, 1) := by decide +kernel
theorem dX5_remove_36 : decode cX5_remove 36 = .ok (.getfield 18, 3) := by decide +kernel
theorem dX5_remove_39 : decode cX5_remove 39 = .ok (.iload_n 2, 1) := by decide +kernel
theorem dX5_remove_40 : decode cX5_remove 40 = .ok (.iconst 1, 1) := by decide +kernel
theorem dX5_remove_41 : decode cX5_remove 41 = .ok (.iadd, 1) := by decide +kernel
theorem dX5_remove_42 : decode cX5_remove 42 = .ok (.iaload, 1) := by decide +kernel
theorem dX5_remove_43 : decode cX5_remove 43 = .ok (.iastore, 1) := by decide +kernel
theorem dX5_remove_44 : decode cX5_remove 44 = .ok (.aload_n 0, 1) := by decide +kernel
theorem dX5_remove_45 : decode cX5_remove 45 = .ok (.getfield 21, 3) := by decide +kernel
theorem dX5_remove_48 : decode cX5_remove 48 = .ok (.iload_n 2, 1) := by decide +kernel
theorem dX5_remove_49 : decode cX5_remove 49 = .ok (.aload_n 0, 1) := by decide +kernel
theorem dX5_remove_50 : decode cX5_remove 50 = .ok (.getfield 21, 3) := by decide +kernel
theorem dX5_remove_53 : decode cX5_remove 53 = .ok (.iload_n 2, 1) := by decide +kernel
theorem dX5_remove_54 : decode cX5_remove 54 = .ok (.iconst 1, 1) := by decide +kernel
theorem dX5_remove_55 : decode cX5_remove 55 = .ok (.iadd, 1) := by decide +kernel
theorem dX5_remove_56 : decode cX5_remove 56 = .ok (.iaload, 1) := by decide +kernel
theorem dX5_remove_57 : decode cX5_remove 57 = .ok (.iastore, 1) := by decide +kernel
theorem dX5_remove_58 : decode cX5_remove 58 = .ok (.iinc 2 1, 3) := by decide +kernel
theorem dX5_remove_61 : decode cX5_remove 61 = .ok (.goto (-59), 3) := by decide +kernel
theorem dX5_remove_64 : decode cX5_remove 64 = .ok (.aload_n 0, 1) := by decide +kernel
theorem dX5_remove_65 : decode cX5_remove 65 = .ok (.aload_n 0, 1) := by decide +kernel
theorem dX5_remove_66 : decode cX5_remove 66 = .ok (.getfield 36, 3) := by decide +kernel
theorem dX5_remove_69 : decode cX5_remove 69 = .ok (.iconst 1, 1) := by decide +kernel
theorem dX5_remove_70 : decode cX5_remove 70 = .ok (.isub, 1) := by decide +kernel
theorem dX5_remove_71 : decode cX5_remove 71 = .ok (.iconst 0, 1) := by decide +kernel
theorem dX5_remove_72 : decode cX5_remove 72 = .ok (.invokestatic 40, 3) := by decide +kernel
theorem dX5_remove_75 : decode cX5_remove 75 = .ok (.putfield 36, 3) := by decide +kernel
theorem dX5_remove_78 : decode cX5_remove 78 = .ok (.return_, 1) := by decide +kernel
theorem dX5_liesIn_0 : decode cX5_liesIn 0 = .ok (.iconst 0, 1) := by decide +kernel
theorem dX5_liesIn_1 : decode cX5_liesIn 1 = .ok (.istore_n 3, 1) := by decide +kernel
theorem dX5_liesIn_2 : decode cX5_liesIn 2 = .ok (.iload_n 3, 1) := by decide +kernel
theorem dX5_liesIn_3 : decode cX5_liesIn 3 = .ok (.aload_n 0, 1) := by decide +kernel
theorem dX5_liesIn_4 : decode cX5_liesIn 4 = .ok (.getfield 36, 3) := by decide +kernel
theorem dX5_liesIn_7 : decode cX5_liesIn 7 = .ok (.if_icmp .ge 31, 3) := by decide +kernel
theorem dX5_liesIn_10 : decode cX5_liesIn 10 = .ok (.aload_n 0, 1) := by decide +kernel
theorem dX5_liesIn_11 : decode cX5_liesIn 11 = .ok (.getfield 15, 3) := by decide +kernel
theorem dX5_liesIn_14 : decode cX5_liesIn 14 = .ok (.iload_n 3, 1) := by decide +kernel
theorem dX5_liesIn_15 : decode cX5_liesIn 15 = .ok (.iaload, 1) := by decide +kernel
theorem dX5_liesIn_16 : decode cX5_liesIn 16 = .ok (.iload_n 1, 1) := by decide +kernel
theorem dX5_liesIn_17 : decode cX5_liesIn 17 = .ok (.if_icmp .ge 13, 3) := by decide +kernel
theorem dX5_liesIn_20 : decode cX5_liesIn 20 = .ok (.aload_n 0, 1) := by decide +kernel
theorem dX5_liesIn_21 : decode cX5_liesIn 21 = .ok (.getfield 18, 3) := by decide +kernel
theorem dX5_liesIn_24 : decode cX5_liesIn 24 = .ok (.iload_n 3, 1) := by decide +kernel
theorem dX5_liesIn_25 : decode cX5_liesIn 25 = .ok (.iaload, 1) := by decide +kernel
theorem dX5_liesIn_26 : decode cX5_liesIn 26 = .ok (.iload_n 2, 1) := by decide +kernel
theorem dX5_liesIn_27 : decode cX5_liesIn 27 = .ok (.if_icmp .lt 5, 3) := by decide +kernel
theorem dX5_liesIn_30 : decode cX5_liesIn 30 = .ok (.iconst 0, 1) := by decide +kernel
theorem dX5_liesIn_31 : decode cX5_liesIn 31 = .ok (.ireturn, 1) := by decide +kernel
theorem dX5_liesIn_32 : decode cX5_liesIn 32 = .ok (.iinc 3 1, 3) := by decide +kernel
theorem dX5_liesIn_35 : decode cX5_liesIn 35 = .ok (.goto (-33), 3) := by decide +kernel
theorem dX5_liesIn_38 : decode cX5_liesIn 38 = .ok (.iconst 1, 1) := by decide +kernel
theorem dX5_liesIn_39 : decode cX5_liesIn 39 = .ok (.ireturn, 1) := by decide +kernel
theorem dX6_init_0 : decode cX6_init 0 = .ok (.aload_n 0, 1) := by decide +kernel
theorem dX6_init_1 : decode cX6_init 1 = .ok (.invokespecial 3, 3) := by decide +kernel
theorem dX6_init_4 : decode cX6_init 4 = .ok (.aload_n 0, 1) := by decide +kernel
theorem dX6_init_5 : decode cX6_init 5 = .ok (.new 9, 3) := by decide +kernel
theorem dX6_init_8 : decode cX6_init 8 = .ok (.dup, 1) := by decide +kernel
theorem dX6_init_9 : decode cX6_init 9 = .ok (.invokespecial 11, 3) := by decide +kernel
theorem dX6_init_12 : decode cX6_init 12 = .ok (.putfield 12, 3) := by decide +kernel
theorem dX6_init_15 : decode cX6_init 15 = .ok (.aload_n 0, 1) := by decide +kernel
theorem dX6_init_16 : decode cX6_init 16 = .ok (.new 18, 3) := by decide +kernel
theorem dX6_init_19 : decode cX6_init 19 = .ok (.dup, 1) := by decide +kernel
theorem dX6_init_20 : decode cX6_init 20 = .ok (.invokespecial 20, 3) := by decide +kernel
theorem dX6_init_23 : decode cX6_init 23 = .ok (.putfield 21, 3) := by decide +kernel
theorem dX6_init_26 : decode cX6_init 26 = .ok (.aload_n 0, 1) := by decide +kernel
theorem dX6_init_27 : decode cX6_init 27 = .ok (.iconst (-1), 1) := by decide +kernel
theorem dX6_init_28 : decode cX6_init 28 = .ok (.putfield 25, 3) := by decide +kernel
theorem dX6_init_31 : decode cX6_init 31 = .ok (.return_, 1) := by decide +kernel
theorem dX6_copyFrom_0 : decode cX6_copyFrom 0 = .ok (.aload_n 0, 1) := by decide +kernel
theorem dX6_copyFrom_1 : decode cX6_copyFrom 1 = .ok (.getfield 12, 3) := by decide +kernel
theorem dX6_copyFrom_4 : decode cX6_copyFrom 4 = .ok (.aload_n 1, 1) := by decide +kernel
theorem dX6_copyFrom_5 : decode cX6_copyFrom 5 = .ok (.getfield 12, 3) := by decide +kernel
theorem dX6_copyFrom_8 : decode cX6_copyFrom 8 = .ok (.invokevirtual 29, 3) := by decide +kernel
theorem dX6_copyFrom_11 : decode cX6_copyFrom 11 = .ok (.aload_n 0, 1) := by decide +kernel
theorem dX6_copyFrom_12 : decode cX6_copyFrom 12 = .ok (.getfield 21, 3) := by decide +kernel
theorem dX6_copyFrom_15 : decode cX6_copyFrom 15 = .ok (.aload_n 1, 1) := by decide +kernel
theorem dX6_copyFrom_16 : decode cX6_copyFrom 16 = .ok (.getfield 21, 3) := by decide +kernel
theorem dX6_copyFrom_19 : decode cX6_copyFrom 19 = .ok (.invokevirtual 33, 3) := by decide +kernel
theorem dX6_copyFrom_22 : decode cX6_copyFrom 22 = .ok (.aload_n 0, 1) := by decide +kernel
theorem dX6_copyFrom_23 : decode cX6_copyFrom 23 = .ok (.aload_n 1, 1) := by decide +kernel
theorem dX6_copyFrom_24 : decode cX6_copyFrom 24 = .ok (.getfield 36, 3) := by decide +kernel
theorem dX6_copyFrom_27 : decode cX6_copyFrom 27 = .ok (.putfield 36, 3) := by decide +kernel
theorem dX6_copyFrom_30 : decode cX6_copyFrom 30 = .ok (.aload_n 0, 1) := by decide +kernel
theorem dX6_copyFrom_31 : decode cX6_copyFrom 31 = .ok (.aload_n 1, 1) := by decide +kernel
theorem dX6_copyFrom_32 : decode cX6_copyFrom 32 = .ok (.getfield 25, 3) := by decide +kernel
theorem dX6_copyFrom_35 : decode cX6_copyFrom 35 = .ok (.putfield 25, 3) := by decide +kernel
theorem dX6_copyFrom_38 : decode cX6_copyFrom 38 = .ok (.aload_n 0, 1) := by decide +kernel
theorem dX6_copyFrom_39 : decode cX6_copyFrom 39 = .ok (.aload_n 1, 1) := by decide +kernel
theorem dX6_copyFrom_40 : decode cX6_copyFrom 40 = .ok (.getfield 39, 3) := by decide +kernel
theorem dX6_copyFrom_43 : decode cX6_copyFrom 43 = .ok (.putfield 39, 3) := by decide +kernel
theorem dX6_copyFrom_46 : decode cX6_copyFrom 46 = .ok (.aload_n 0, 1) := by decide +kernel
theorem dX6_copyFrom_47 : decode cX6_copyFrom 47 = .ok (.aload_n 1, 1) := by decide +kernel
theorem dX6_copyFrom_48 : decode cX6_copyFrom 48 = .ok (.getfield 42, 3) := by decide +kernel
theorem dX6_copyFrom_51 : decode cX6_copyFrom 51 = .ok (.putfield 42, 3) := by decide +kernel
theorem dX6_copyFrom_54 : decode cX6_copyFrom 54 = .ok (.aload_n 0, 1) := by decide +kernel
theorem dX6_copyFrom_55 : decode cX6_copyFrom 55 = .ok (.aload_n 1, 1) := by decide +kernel
theorem dX6_copyFrom_56 : decode cX6_copyFrom 56 = .ok (.getfield 45, 3) := by decide +kernel
theorem dX6_copyFrom_59 : decode cX6_copyFrom 59 = .ok (.putfield 45, 3) := by decide +kernel
theorem dX6_copyFrom_62 : decode cX6_copyFrom 62 = .ok (.return_, 1) := by decide +kernel
theorem dX7_init_0 : decode cX7_init 0 = .ok (.aload_n 0, 1) := by decide +kernel
theorem dX7_init_1 : decode cX7_init 1 = .ok (.invokespecial 3, 3) := by decide +kernel
theorem dX7_init_4 : decode cX7_init 4 = .ok (.aload_n 0, 1) := by decide +kernel
theorem dX7_init_5 : decode cX7_init 5 = .ok (.sipush 300, 3) := by decide +kernel
theorem dX7_init_8 : decode cX7_init 8 = .ok (.newarray .byte, 2) := by decide +kernel
theorem dX7_init_10 : decode cX7_init 10 = .ok (.putfield 9, 3) := by decide +kernel
theorem dX7_init_13 : decode cX7_init 13 = .ok (.return_, 1) := by decide +kernel
theorem dX7_hasRoom_0 : decode cX7_hasRoom 0 = .ok (.aload_n 0, 1) := by decide +kernel
theorem dX7_hasRoom_1 : decode cX7_hasRoom 1 = .ok (.getfield 15, 3) := by decide +kernel
theorem dX7_hasRoom_4 : decode cX7_hasRoom 4 = .ok (.iload_n 1, 1) := by decide +kernel
theorem dX7_hasRoom_5 : decode cX7_hasRoom 5 = .ok (.iadd, 1) := by decide +kernel
theorem dX7_hasRoom_6 : decode cX7_hasRoom 6 = .ok (.sipush 300, 3) := by decide +kernel
theorem dX7_hasRoom_9 : decode cX7_hasRoom 9 = .ok (.if_icmp .gt 7, 3) := by decide +kernel
theorem dX7_hasRoom_12 : decode cX7_hasRoom 12 = .ok (.iconst 1, 1) := by decide +kernel
theorem dX7_hasRoom_13 : decode cX7_hasRoom 13 = .ok (.goto 4, 3) := by decide +kernel
theorem dX7_hasRoom_16 : decode cX7_hasRoom 16 = .ok (.iconst 0, 1) := by decide +kernel
theorem dX7_hasRoom_17 : decode cX7_hasRoom 17 = .ok (.ireturn, 1) := by decide +kernel
theorem dX7_append_0 : decode cX7_append 0 = .ok (.bipush 24, 2) := by decide +kernel
theorem dX7_append_2 : decode cX7_append 2 = .ok (.istore_n 2, 1) := by decide +kernel
theorem dX7_append_3 : decode cX7_append 3 = .ok (.iload_n 2, 1) := by decide +kernel
theorem dX7_append_4 : decode cX7_append 4 = .ok (.ifCond .lt 40, 3) := by decide +kernel
theorem dX7_append_7 : decode cX7_append 7 = .ok (.aload_n 0, 1) := by decide +kernel
theorem dX7_append_8 : decode cX7_append 8 = .ok (.iconst 1, 1) := by decide +kernel
theorem dX7_append_9 : decode cX7_append 9 = .ok (.invokevirtual 19, 3) := by decide +kernel
theorem dX7_append_12 : decode cX7_append 12 = .ok (.ifCond .eq 32, 3) := by decide +kernel
theorem dX7_append_15 : decode cX7_append 15 = .ok (.aload_n 0, 1) := by decide +kernel
theorem dX7_append_16 : decode cX7_append 16 = .ok (.getfield 9, 3) := by decide +kernel
theorem dX7_append_19 : decode cX7_append 19 = .ok (.aload_n 0, 1) := by decide +kernel
theorem dX7_append_20 : decode cX7_append 20 = .ok (.getfield 15, 3) := by decide +kernel
theorem dX7_append_23 : decode cX7_append 23 = .ok (.iload_n 1, 1) := by decide +kernel
theorem dX7_append_24 : decode cX7_append 24 = .ok (.iload_n 2, 1) := by decide +kernel
theorem dX7_append_25 : decode cX7_append 25 = .ok (.ishr, 1) := by decide +kernel
theorem dX7_append_26 : decode cX7_append 26 = .ok (.i2b, 1) := by decide +kernel
theorem dX7_append_27 : decode cX7_append 27 = .ok (.bastore, 1) := by decide +kernel
theorem dX7_append_28 : decode cX7_append 28 = .ok (.aload_n 0, 1) := by decide +kernel
theorem dX7_append_29 : decode cX7_append 29 = .ok (.dup, 1) := by decide +kernel
theorem dX7_append_30 : decode cX7_append 30 = .ok (.getfield 15, 3) := by decide +kernel
theorem dX7_append_33 : decode cX7_append 33 = .ok (.iconst 1, 1) := by decide +kernel
theorem dX7_append_34 : decode cX7_append 34 = .ok (.iadd, 1) := by decide +kernel
theorem dX7_append_35 : decode cX7_append 35 = .ok (.putfield 15, 3) := by decide +kernel
theorem dX7_append_38 : decode cX7_append 38 = .ok (.iinc 2 (-8), 3) := by decide +kernel
theorem dX7_append_41 : decode cX7_append 41 = .ok (.goto (-38), 3) := by decide +kernel
theorem dX7_append_44 : decode cX7_append 44 = .ok (.return_, 1) := by decide +kernel
theorem dX7_copyFrom_0 : decode cX7_copyFrom 0 = .ok (.aload_n 1, 1) := by decide +kernel
theorem dX7_copyFrom_1 : decode cX7_copyFrom 1 = .ok (.getfield 9, 3) := by decide +kernel
theorem dX7_copyFrom_4 : decode cX7_copyFrom 4 = .ok (.iconst 0, 1) := by decide +kernel
theorem dX7_copyFrom_5 : decode cX7_copyFrom 5 = .ok (.aload_n 0, 1) := by decide +kernel
theorem dX7_copyFrom_6 : decode cX7_copyFrom 6 = .ok (.getfield 9, 3) := by decide +kernel
theorem dX7_copyFrom_9 : decode cX7_copyFrom 9 = .ok (.iconst 0, 1) := by decide +kernel
theorem dX7_copyFrom_10 : decode cX7_copyFrom 10 = .ok (.sipush 300, 3) := by decide +kernel
theorem dX7_copyFrom_13 : decode cX7_copyFrom 13 = .ok (.invokestatic 23, 3) := by decide +kernel
theorem dX7_copyFrom_16 : decode cX7_copyFrom 16 = .ok (.aload_n 0, 1) := by decide +kernel
theorem dX7_copyFrom_17 : decode cX7_copyFrom 17 = .ok (.aload_n 1, 1) := by decide +kernel
theorem dX7_copyFrom_18 : decode cX7_copyFrom 18 = .ok (.getfield 15, 3) := by decide +kernel
theorem dX7_copyFrom_21 : decode cX7_copyFrom 21 = .ok (.putfield 15, 3) := by decide +kernel
theorem dX7_copyFrom_24 : decode cX7_copyFrom 24 = .ok (.return_, 1) := by decide +kernel
theorem dX8_init_0 : decode cX8_init 0 = .ok (.aload_n 0, 1) := by decide +kernel
theorem dX8_init_1 : decode cX8_init 1 = .ok (.invokespecial 3, 3) := by decide +kernel
theorem dX8_init_4 : decode cX8_init 4 = .ok (.aload_n 0, 1) := by decide +kernel
theorem dX8_init_5 : decode cX8_init 5 = .ok (.sipush 400, 3) := by decide +kernel
theorem dX8_init_8 : decode cX8_init 8 = .ok (.newarray .byte, 2) := by decide +kernel
theorem dX8_init_10 : decode cX8_init 10 = .ok (.putfield 11, 3) := by decide +kernel
theorem dX8_init_13 : decode cX8_init 13 = .ok (.return_, 1) := by decide +kernel
theorem dX8_tellSpec_0 : decode cX8_tellSpec 0 = .ok (.aload_n 0, 1) := by decide +kernel
theorem dX8_tellSpec_1 : decode cX8_tellSpec 1 = .ok (.iconst 0, 1) := by decide +kernel
theorem dX8_tellSpec_2 : decode cX8_tellSpec 2 = .ok (.putfield 15, 3) := by decide +kernel
theorem dX8_tellSpec_5 : decode cX8_tellSpec 5 = .ok (.iconst 0, 1) := by decide +kernel
theorem dX8_tellSpec_6 : decode cX8_tellSpec 6 = .ok (.istore_n 2, 1) := by decide +kernel
theorem dX8_tellSpec_7 : decode cX8_tellSpec 7 = .ok (.iload_n 2, 1) := by decide +kernel
theorem dX8_tellSpec_8 : decode cX8_tellSpec 8 = .ok (.bipush 7, 2) := by decide +kernel
theorem dX8_tellSpec_10 : decode cX8_tellSpec 10 = .ok (.if_icmp .ge 82, 3) := by decide +kernel
theorem dX8_tellSpec_13 : decode cX8_tellSpec 13 = .ok (.aload_n 0, 1) := by decide +kernel
theorem dX8_tellSpec_14 : decode cX8_tellSpec 14 = .ok (.iload_n 2, 1) := by decide +kernel
theorem dX8_tellSpec_15 : decode cX8_tellSpec 15 = .ok (.invokestatic 19, 3) := by decide +kernel
theorem dX8_tellSpec_18 : decode cX8_tellSpec 18 = .ok (.invokevirtual 23, 3) := by decide +kernel
theorem dX8_tellSpec_21 : decode cX8_tellSpec 21 = .ok (.iconst 0, 1) := by decide +kernel
theorem dX8_tellSpec_22 : decode cX8_tellSpec 22 = .ok (.istore_n 3, 1) := by decide +kernel
theorem dX8_tellSpec_23 : decode cX8_tellSpec 23 = .ok (.iload_n 3, 1) := by decide +kernel
theorem dX8_tellSpec_24 : decode cX8_tellSpec 24 = .ok (.getstatic 27, 3) := by decide +kernel
theorem dX8_tellSpec_27 : decode cX8_tellSpec 27 = .ok (.iload_n 2, 1) := by decide +kernel
theorem dX8_tellSpec_28 : decode cX8_tellSpec 28 = .ok (.iaload, 1) := by decide +kernel
theorem dX8_tellSpec_29 : decode cX8_tellSpec 29 = .ok (.if_icmp .ge 25, 3) := by decide +kernel
theorem dX8_tellSpec_32 : decode cX8_tellSpec 32 = .ok (.aload_n 0, 1) := by decide +kernel
theorem dX8_tellSpec_33 : decode cX8_tellSpec 33 = .ok (.aload_n 1, 1) := by decide +kernel
theorem dX8_tellSpec_34 : decode cX8_tellSpec 34 = .ok (.getfield 31, 3) := by decide +kernel
theorem dX8_tellSpec_37 : decode cX8_tellSpec 37 = .ok (.getstatic 36, 3) := by decide +kernel
theorem dX8_tellSpec_40 : decode cX8_tellSpec 40 = .ok (.iload_n 2, 1) := by decide +kernel
theorem dX8_tellSpec_41 : decode cX8_tellSpec 41 = .ok (.iaload, 1) := by decide +kernel
theorem dX8_tellSpec_42 : decode cX8_tellSpec 42 = .ok (.iload_n 3, 1) := by decide +kernel
theorem dX8_tellSpec_43 : decode cX8_tellSpec 43 = .ok (.iadd, 1) := by decide +kernel
theorem dX8_tellSpec_44 : decode cX8_tellSpec 44 = .ok (.iaload, 1) := by decide +kernel
theorem dX8_tellSpec_45 : decode cX8_tellSpec 45 = .ok (.invokevirtual 39, 3) := by decide +kernel
theorem dX8_tellSpec_48 : decode cX8_tellSpec 48 = .ok (.iinc 3 1, 3) := by decide +kernel
theorem dX8_tellSpec_51 : decode cX8_tellSpec 51 = .ok (.goto (-28), 3) := by decide +kernel
theorem dX8_tellSpec_54 : decode cX8_tellSpec 54 = .ok (.iload_n 2, 1) := by decide +kernel
theorem dX8_tellSpec_55 : decode cX8_tellSpec 55 = .ok (.bipush 6, 2) := by decide +kernel
theorem dX8_tellSpec_57 : decode cX8_tellSpec 57 = .ok (.if_icmp .ne 23, 3) := by decide +kernel
theorem dX8_tellSpec_60 : decode cX8_tellSpec 60 = .ok (.aload_n 0, 1) := by decide +kernel
theorem dX8_tellSpec_61 : decode cX8_tellSpec 61 = .ok (.bipush 32, 2) := by decide +kernel
theorem dX8_tellSpec_63 : decode cX8_tellSpec 63 = .ok (.invokevirtual 43, 3) := by decide +kernel
theorem dX8_tellSpec_66 : decode cX8_tellSpec 66 = .ok (.aload_n 0, 1) := by decide +kernel
theorem dX8_tellSpec_67 : decode cX8_tellSpec 67 = .ok (.aload_n 1, 1) := by decide +kernel
theorem dX8_tellSpec_68 : decode cX8_tellSpec 68 = .ok (.getfield 31, 3) := by decide +kernel
theorem dX8_tellSpec_71 : decode cX8_tellSpec 71 = .ok (.bipush 8, 2) := by decide +kernel
theorem dX8_tellSpec_73 : decode cX8_tellSpec 73 = .ok (.iaload, 1) := by decide +kernel
theorem dX8_tellSpec_74 : decode cX8_tellSpec 74 = .ok (.invokestatic 47, 3) := by decide +kernel
theorem dX8_tellSpec_77 : decode cX8_tellSpec 77 = .ok (.invokevirtual 23, 3) := by decide +kernel
theorem dX8_tellSpec_80 : decode cX8_tellSpec 80 = .ok (.aload_n 0, 1) := by decide +kernel
theorem dX8_tellSpec_81 : decode cX8_tellSpec 81 = .ok (.bipush 59, 2) := by decide +kernel
theorem dX8_tellSpec_83 : decode cX8_tellSpec 83 = .ok (.invokevirtual 43, 3) := by decide +kernel
theorem dX8_tellSpec_86 : decode cX8_tellSpec 86 = .ok (.iinc 2 1, 3) := by decide +kernel
theorem dX8_tellSpec_89 : decode cX8_tellSpec 89 = .ok (.goto (-82), 3) := by decide +kernel
theorem dX8_tellSpec_92 : decode cX8_tellSpec 92 = .ok (.iconst 0, 1) := by decide +kernel
theorem dX8_tellSpec_93 : decode cX8_tellSpec 93 = .ok (.istore_n 2, 1) := by decide +kernel
theorem dX8_tellSpec_94 : decode cX8_tellSpec 94 = .ok (.iload_n 2, 1) := by decide +kernel
theorem dX8_tellSpec_95 : decode cX8_tellSpec 95 = .ok (.aload_n 1, 1) := by decide +kernel
theorem dX8_tellSpec_96 : decode cX8_tellSpec 96 = .ok (.getfield 50, 3) := by decide +kernel
theorem dX8_tellSpec_99 : decode cX8_tellSpec 99 = .ok (.if_icmp .ge 54, 3) := by decide +kernel
theorem dX8_tellSpec_102 : decode cX8_tellSpec 102 = .ok (.aload_n 0, 1) := by decide +kernel
theorem dX8_tellSpec_103 : decode cX8_tellSpec 103 = .ok (.bipush 7, 2) := by decide +kernel
theorem dX8_tellSpec_105 : decode cX8_tellSpec 105 = .ok (.invokestatic 19, 3) := by decide +kernel
theorem dX8_tellSpec_108 : decode cX8_tellSpec 108 = .ok (.invokevirtual 23, 3) := by decide +kernel
theorem dX8_tellSpec_111 : decode cX8_tellSpec 111 = .ok (.aload_n 0, 1) := by decide +kernel
theorem dX8_tellSpec_112 : decode cX8_tellSpec 112 = .ok (.aload_n 1, 1) := by decide +kernel
theorem dX8_tellSpec_113 : decode cX8_tellSpec 113 = .ok (.getfield 53, 3) := by decide +kernel
theorem dX8_tellSpec_116 : decode cX8_tellSpec 116 = .ok (.iload_n 2, 1) := by decide +kernel
theorem dX8_tellSpec_117 : decode cX8_tellSpec 117 = .ok (.iaload, 1) := by decide +kernel
theorem dX8_tellSpec_118 : decode cX8_tellSpec 118 = .ok (.invokevirtual 39, 3) := by decide +kernel
theorem dX8_tellSpec_121 : decode cX8_tellSpec 121 = .ok (.aload_n 0, 1) := by decide +kernel
theorem dX8_tellSpec_122 : decode cX8_tellSpec 122 = .ok (.aload_n 1, 1) := by decide +kernel
theorem dX8_tellSpec_123 : decode cX8_tellSpec 123 = .ok (.getfield 56, 3) := by decide +kernel
theorem dX8_tellSpec_126 : decode cX8_tellSpec 126 = .ok (.iload_n 2, 1) := by decide +kernel
theorem dX8_tellSpec_127 : decode cX8_tellSpec 127 = .ok (.iaload, 1) := by decide +kernel
theorem dX8_tellSpec_128 : decode cX8_tellSpec 128 = .ok (.invokevirtual 39, 3) := by decide +kernel
theorem dX8_tellSpec_131 : decode cX8_tellSpec 131 = .ok (.aload_n 0, 1) := by decide +kernel
theorem dX8_tellSpec_132 : decode cX8_tellSpec 132 = .ok (.aload_n 1, 1) := by decide +kernel
theorem dX8_tellSpec_133 : decode cX8_tellSpec 133 = .ok (.getfield 59, 3) := by decide +kernel
theorem dX8_tellSpec_136 : decode cX8_tellSpec 136 = .ok (.iload_n 2, 1) := by decide +kernel
theorem dX8_tellSpec_137 : decode cX8_tellSpec 137 = .ok (.iaload, 1) := by decide +kernel
theorem dX8_tellSpec_138 : decode cX8_tellSpec 138 = .ok (.invokevirtual 39, 3) := by decide +kernel
theorem dX8_tellSpec_141 : decode cX8_tellSpec 141 = .ok (.aload_n 0, 1) := by decide +kernel
theorem dX8_tellSpec_142 : decode cX8_tellSpec 142 = .ok (.bipush 59, 2) := by decide +kernel
theorem dX8_tellSpec_144 : decode cX8_tellSpec 144 = .ok (.invokevirtual 43, 3) := by decide +kernel
theorem dX8_tellSpec_147 : decode cX8_tellSpec 147 = .ok (.iinc 2 1, 3) := by decide +kernel
theorem dX8_tellSpec_150 : decode cX8_tellSpec 150 = .ok (.goto (-56), 3) := by decide +kernel
theorem dX8_tellSpec_153 : decode cX8_tellSpec 153 = .ok (.return_, 1) := by decide +kernel
theorem dX8_tellMade_0 : decode cX8_tellMade 0 = .ok (.aload_n 0, 1) := by decide +kernel
theorem dX8_tellMade_1 : decode cX8_tellMade 1 = .ok (.iconst 0, 1) := by decide +kernel
theorem dX8_tellMade_2 : decode cX8_tellMade 2 = .ok (.putfield 15, 3) := by decide +kernel
theorem dX8_tellMade_5 : decode cX8_tellMade 5 = .ok (.aload_n 0, 1) := by decide +kernel
theorem dX8_tellMade_6 : decode cX8_tellMade 6 = .ok (.ldc 62, 2) := by decide +kernel
theorem dX8_tellMade_8 : decode cX8_tellMade 8 = .ok (.aload_n 1, 1) := by decide +kernel
theorem dX8_tellMade_9 : decode cX8_tellMade 9 = .ok (.getfield 64, 3) := by decide +kernel
theorem dX8_tellMade_12 : decode cX8_tellMade 12 = .ok (.aload_n 1, 1) := by decide +kernel
theorem dX8_tellMade_13 : decode cX8_tellMade 13 = .ok (.getfield 69, 3) := by decide +kernel
theorem dX8_tellMade_16 : decode cX8_tellMade 16 = .ok (.invokevirtual 72, 3) := by decide +kernel
theorem dX8_tellMade_19 : decode cX8_tellMade 19 = .ok (.aload_n 0, 1) := by decide +kernel
theorem dX8_tellMade_20 : decode cX8_tellMade 20 = .ok (.ldc 76, 2) := by decide +kernel
theorem dX8_tellMade_22 : decode cX8_tellMade 22 = .ok (.aload_n 1, 1) := by decide +kernel
theorem dX8_tellMade_23 : decode cX8_tellMade 23 = .ok (.invokevirtual 78, 3) := by decide +kernel
theorem dX8_tellMade_26 : decode cX8_tellMade 26 = .ok (.aload_n 1, 1) := by decide +kernel
theorem dX8_tellMade_27 : decode cX8_tellMade 27 = .ok (.invokevirtual 82, 3) := by decide +kernel
theorem dX8_tellMade_30 : decode cX8_tellMade 30 = .ok (.invokevirtual 72, 3) := by decide +kernel
theorem dX8_tellMade_33 : decode cX8_tellMade 33 = .ok (.aload_n 0, 1) := by decide +kernel
theorem dX8_tellMade_34 : decode cX8_tellMade 34 = .ok (.ldc 85, 2) := by decide +kernel
theorem dX8_tellMade_36 : decode cX8_tellMade 36 = .ok (.aload_n 1, 1) := by decide +kernel
theorem dX8_tellMade_37 : decode cX8_tellMade 37 = .ok (.getfield 87, 3) := by decide +kernel
theorem dX8_tellMade_40 : decode cX8_tellMade 40 = .ok (.aload_n 2, 1) := by decide +kernel
theorem dX8_tellMade_41 : decode cX8_tellMade 41 = .ok (.getfield 89, 3) := by decide +kernel
theorem dX8_tellMade_44 : decode cX8_tellMade 44 = .ok (.invokevirtual 72, 3) := by decide +kernel
theorem dX8_tellMade_47 : decode cX8_tellMade 47 = .ok (.aload_n 0, 1) := by decide +kernel
theorem dX8_tellMade_48 : decode cX8_tellMade 48 = .ok (.ldc 94, 2) := by decide +kernel
theorem dX8_tellMade_50 : decode cX8_tellMade 50 = .ok (.aload_n 1, 1) := by decide +kernel
theorem dX8_tellMade_51 : decode cX8_tellMade 51 = .ok (.getfield 96, 3) := by decide +kernel
theorem dX8_tellMade_54 : decode cX8_tellMade 54 = .ok (.aload_n 2, 1) := by decide +kernel
theorem dX8_tellMade_55 : decode cX8_tellMade 55 = .ok (.getfield 98, 3) := by decide +kernel
theorem dX8_tellMade_58 : decode cX8_tellMade 58 = .ok (.invokevirtual 72, 3) := by decide +kernel
theorem dX8_tellMade_61 : decode cX8_tellMade 61 = .ok (.aload_n 0, 1) := by decide +kernel
theorem dX8_tellMade_62 : decode cX8_tellMade 62 = .ok (.ldc 101, 2) := by decide +kernel
theorem dX8_tellMade_64 : decode cX8_tellMade 64 = .ok (.invokevirtual 23, 3) := by decide +kernel
theorem dX8_tellMade_67 : decode cX8_tellMade 67 = .ok (.aload_n 0, 1) := by decide +kernel
theorem dX8_tellMade_68 : decode cX8_tellMade 68 = .ok (.aload_n 1, 1) := by decide +kernel
theorem dX8_tellMade_69 : decode cX8_tellMade 69 = .ok (.getfield 103, 3) := by decide +kernel
theorem dX8_tellMade_72 : decode cX8_tellMade 72 = .ok (.invokevirtual 39, 3) := by decide +kernel
theorem dX8_tellMade_75 : decode cX8_tellMade 75 = .ok (.iconst 0, 1) := by decide +kernel
theorem dX8_tellMade_76 : decode cX8_tellMade 76 = .ok (.istore_n 3, 1) := by decide +kernel
theorem dX8_tellMade_77 : decode cX8_tellMade 77 = .ok (.iload_n 3, 1) := by decide +kernel
theorem dX8_tellMade_78 : decode cX8_tellMade 78 = .ok (.aload_n 1, 1) := by decide +kernel
theorem dX8_tellMade_79 : decode cX8_tellMade 79 = .ok (.getfield 103, 3) := by decide +kernel
theorem dX8_tellMade_82 : decode cX8_tellMade 82 = .ok (.if_icmp .ge 25, 3) := by decide +kernel
theorem dX8_tellMade_85 : decode cX8_tellMade 85 = .ok (.iload_n 3, 1) := by decide +kernel
theorem dX8_tellMade_86 : decode cX8_tellMade 86 = .ok (.bipush 8, 2) := by decide +kernel
theorem dX8_tellMade_88 : decode cX8_tellMade 88 = .ok (.if_icmp .ge 19, 3) := by decide +kernel
theorem dX8_tellMade_91 : decode cX8_tellMade 91 = .ok (.aload_n 0, 1) := by decide +kernel
theorem dX8_tellMade_92 : decode cX8_tellMade 92 = .ok (.aload_n 1, 1) := by decide +kernel
theorem dX8_tellMade_93 : decode cX8_tellMade 93 = .ok (.getfield 105, 3) := by decide +kernel
theorem dX8_tellMade_96 : decode cX8_tellMade 96 = .ok (.iload_n 3, 1) := by decide +kernel
theorem dX8_tellMade_97 : decode cX8_tellMade 97 = .ok (.iaload, 1) := by decide +kernel
theorem dX8_tellMade_98 : decode cX8_tellMade 98 = .ok (.invokevirtual 39, 3) := by decide +kernel
theorem dX8_tellMade_101 : decode cX8_tellMade 101 = .ok (.iinc 3 1, 3) := by decide +kernel
theorem dX8_tellMade_104 : decode cX8_tellMade 104 = .ok (.goto (-27), 3) := by decide +kernel
theorem dX8_tellMade_107 : decode cX8_tellMade 107 = .ok (.aload_n 0, 1) := by decide +kernel
theorem dX8_tellMade_108 : decode cX8_tellMade 108 = .ok (.bipush 59, 2) := by decide +kernel
theorem dX8_tellMade_110 : decode cX8_tellMade 110 = .ok (.invokevirtual 43, 3) := by decide +kernel
theorem dX8_tellMade_113 : decode cX8_tellMade 113 = .ok (.return_, 1) := by decide +kernel
theorem dX8_putPair_0 : decode cX8_putPair 0 = .ok (.aload_n 0, 1) := by decide +kernel
theorem dX8_putPair_1 : decode cX8_putPair 1 = .ok (.aload_n 1, 1) := by decide +kernel
theorem dX8_putPair_2 : decode cX8_putPair 2 = .ok (.invokevirtual 23, 3) := by decide +kernel
theorem dX8_putPair_5 : decode cX8_putPair 5 = .ok (.aload_n 0, 1) := by decide +kernel
theorem dX8_putPair_6 : decode cX8_putPair 6 = .ok (.iload_n 2, 1) := by decide +kernel
theorem dX8_putPair_7 : decode cX8_putPair 7 = .ok (.invokevirtual 39, 3) := by decide +kernel
theorem dX8_putPair_10 : decode cX8_putPair 10 = .ok (.aload_n 0, 1) := by decide +kernel
theorem dX8_putPair_11 : decode cX8_putPair 11 = .ok (.iload_n 3, 1) := by decide +kernel
theorem dX8_putPair_12 : decode cX8_putPair 12 = .ok (.invokevirtual 39, 3) := by decide +kernel
theorem dX8_putPair_15 : decode cX8_putPair 15 = .ok (.aload_n 0, 1) := by decide +kernel
theorem dX8_putPair_16 : decode cX8_putPair 16 = .ok (.bipush 59, 2) := by decide +kernel
theorem dX8_putPair_18 : decode cX8_putPair 18 = .ok (.invokevirtual 43, 3) := by decide +kernel
theorem dX8_putPair_21 : decode cX8_putPair 21 = .ok (.return_, 1) := by decide +kernel
theorem dX8_putNumber_0 : decode cX8_putNumber 0 = .ok (.aload_n 0, 1) := by decide +kernel
theorem dX8_putNumber_1 : decode cX8_putNumber 1 = .ok (.bipush 32, 2) := by decide +kernel
theorem dX8_putNumber_3 : decode cX8_putNumber 3 = .ok (.invokevirtual 43, 3) := by decide +kernel
theorem dX8_putNumber_6 : decode cX8_putNumber 6 = .ok (.ldc 108, 2) := by decide +kernel
theorem dX8_putNumber_8 : decode cX8_putNumber 8 = .ok (.istore_n 2, 1) := by decide +kernel
theorem dX8_putNumber_9 : decode cX8_putNumber 9 = .ok (.iload_n 2, 1) := by decide +kernel
theorem dX8_putNumber_10 : decode cX8_putNumber 10 = .ok (.ifCond .le 35, 3) := by decide +kernel
theorem dX8_putNumber_13 : decode cX8_putNumber 13 = .ok (.iload_n 2, 1) := by decide +kernel
theorem dX8_putNumber_14 : decode cX8_putNumber 14 = .ok (.iconst 1, 1) := by decide +kernel
theorem dX8_putNumber_15 : decode cX8_putNumber 15 = .ok (.if_icmp .eq 8, 3) := by decide +kernel
theorem dX8_putNumber_18 : decode cX8_putNumber 18 = .ok (.iload_n 1, 1) := by decide +kernel
theorem dX8_putNumber_19 : decode cX8_putNumber 19 = .ok (.iload_n 2, 1) := by decide +kernel
theorem dX8_putNumber_20 : decode cX8_putNumber 20 = .ok (.if_icmp .lt 17, 3) := by decide +kernel
theorem dX8_putNumber_23 : decode cX8_putNumber 23 = .ok (.aload_n 0, 1) := by decide +kernel
theorem dX8_putNumber_24 : decode cX8_putNumber 24 = .ok (.bipush 48, 2) := by decide +kernel
theorem dX8_putNumber_26 : decode cX8_putNumber 26 = .ok (.iload_n 1, 1) := by decide +kernel
theorem dX8_putNumber_27 : decode cX8_putNumber 27 = .ok (.iload_n 2, 1) := by decide +kernel
theorem dX8_putNumber_28 : decode cX8_putNumber 28 = .ok (.idiv, 1) := by decide +kernel
theorem dX8_putNumber_29 : decode cX8_putNumber 29 = .ok (.bipush 10, 2) := by decide +kernel
theorem dX8_putNumber_31 : decode cX8_putNumber 31 = .ok (.irem, 1) := by decide +kernel
theorem dX8_putNumber_32 : decode cX8_putNumber 32 = .ok (.iadd, 1) := by decide +kernel
theorem dX8_putNumber_33 : decode cX8_putNumber 33 = .ok (.i2c, 1) := by decide +kernel
theorem dX8_putNumber_34 : decode cX8_putNumber 34 = .ok (.invokevirtual 43, 3) := by decide +kernel
theorem dX8_putNumber_37 : decode cX8_putNumber 37 = .ok (.iload_n 2, 1) := by decide +kernel
theorem dX8_putNumber_38 : decode cX8_putNumber 38 = .ok (.bipush 10, 2) := by decide +kernel
theorem dX8_putNumber_40 : decode cX8_putNumber 40 = .ok (.idiv, 1) := by decide +kernel
theorem dX8_putNumber_41 : decode cX8_putNumber 41 = .ok (.istore_n 2, 1) := by decide +kernel
theorem dX8_putNumber_42 : decode cX8_putNumber 42 = .ok (.goto (-33), 3) := by decide +kernel
theorem dX8_putNumber_45 : decode cX8_putNumber 45 = .ok (.return_, 1) := by decide +kernel
theorem dX8_putSigns_0 : decode cX8_putSigns 0 = .ok (.iconst 0, 1) := by decide +kernel
theorem dX8_putSigns_1 : decode cX8_putSigns 1 = .ok (.istore_n 2, 1) := by decide +kernel
theorem dX8_putSigns_2 : decode cX8_putSigns 2 = .ok (.iload_n 2, 1) := by decide +kernel
theorem dX8_putSigns_3 : decode cX8_putSigns 3 = .ok (.aload_n 1, 1) := by decide +kernel
theorem dX8_putSigns_4 : decode cX8_putSigns 4 = .ok (.invokevirtual 109, 3) := by decide +kernel
theorem dX8_putSigns_7 : decode cX8_putSigns 7 = .ok (.if_icmp .ge 18, 3) := by decide +kernel
theorem dX8_putSigns_10 : decode cX8_putSigns 10 = .ok (.aload_n 0, 1) := by decide +kernel
theorem dX8_putSigns_11 : decode cX8_putSigns 11 = .ok (.aload_n 1, 1) := by decide +kernel
theorem dX8_putSigns_12 : decode cX8_putSigns 12 = .ok (.iload_n 2, 1) := by decide +kernel
theorem dX8_putSigns_13 : decode cX8_putSigns 13 = .ok (.invokevirtual 113, 3) := by decide +kernel
theorem dX8_putSigns_16 : decode cX8_putSigns 16 = .ok (.invokevirtual 43, 3) := by decide +kernel
theorem dX8_putSigns_19 : decode cX8_putSigns 19 = .ok (.iinc 2 1, 3) := by decide +kernel
theorem dX8_putSigns_22 : decode cX8_putSigns 22 = .ok (.goto (-20), 3) := by decide +kernel
theorem dX8_putSigns_25 : decode cX8_putSigns 25 = .ok (.return_, 1) := by decide +kernel
theorem dX8_putSign_0 : decode cX8_putSign 0 = .ok (.aload_n 0, 1) := by decide +kernel
theorem dX8_putSign_1 : decode cX8_putSign 1 = .ok (.getfield 15, 3) := by decide +kernel
theorem dX8_putSign_4 : decode cX8_putSign 4 = .ok (.sipush 400, 3) := by decide +kernel
theorem dX8_putSign_7 : decode cX8_putSign 7 = .ok (.if_icmp .ge 24, 3) := by decide +kernel
theorem dX8_putSign_10 : decode cX8_putSign 10 = .ok (.aload_n 0, 1) := by decide +kernel
theorem dX8_putSign_11 : decode cX8_putSign 11 = .ok (.getfield 11, 3) := by decide +kernel
theorem dX8_putSign_14 : decode cX8_putSign 14 = .ok (.aload_n 0, 1) := by decide +kernel
theorem dX8_putSign_15 : decode cX8_putSign 15 = .ok (.getfield 15, 3) := by decide +kernel
theorem dX8_putSign_18 : decode cX8_putSign 18 = .ok (.iload_n 1, 1) := by decide +kernel
theorem dX8_putSign_19 : decode cX8_putSign 19 = .ok (.i2b, 1) := by decide +kernel
theorem dX8_putSign_20 : decode cX8_putSign 20 = .ok (.bastore, 1) := by decide +kernel
theorem dX8_putSign_21 : decode cX8_putSign 21 = .ok (.aload_n 0, 1) := by decide +kernel
theorem dX8_putSign_22 : decode cX8_putSign 22 = .ok (.dup, 1) := by decide +kernel
theorem dX8_putSign_23 : decode cX8_putSign 23 = .ok (.getfield 15, 3) := by decide +kernel
theorem dX8_putSign_26 : decode cX8_putSign 26 = .ok (.iconst 1, 1) := by decide +kernel
theorem dX8_putSign_27 : decode cX8_putSign 27 = .ok (.iadd, 1) := by decide +kernel
theorem dX8_putSign_28 : decode cX8_putSign 28 = .ok (.putfield 15, 3) := by decide +kernel
theorem dX8_putSign_31 : decode cX8_putSign 31 = .ok (.return_, 1) := by decide +kernel
theorem dX9_init_0 : decode cX9_init 0 = .ok (.aload_n 0, 1) := by decide +kernel
theorem dX9_init_1 : decode cX9_init 1 = .ok (.invokespecial 3, 3) := by decide +kernel
theorem dX9_init_4 : decode cX9_init 4 = .ok (.aload_n 0, 1) := by decide +kernel
theorem dX9_init_5 : decode cX9_init 5 = .ok (.new 9, 3) := by decide +kernel
theorem dX9_init_8 : decode cX9_init 8 = .ok (.dup, 1) := by decide +kernel
theorem dX9_init_9 : decode cX9_init 9 = .ok (.invokespecial 11, 3) := by decide +kernel
theorem dX9_init_12 : decode cX9_init 12 = .ok (.putfield 12, 3) := by decide +kernel
theorem dX9_init_15 : decode cX9_init 15 = .ok (.return_, 1) := by decide +kernel
theorem dX9_lay_0 : decode cX9_lay 0 = .ok (.aload_n 0, 1) := by decide +kernel
theorem dX9_lay_1 : decode cX9_lay 1 = .ok (.iload_n 2, 1) := by decide +kernel
theorem dX9_lay_2 : decode cX9_lay 2 = .ok (.putfield 18, 3) := by decide +kernel
theorem dX9_lay_5 : decode cX9_lay 5 = .ok (.aload_n 0, 1) := by decide +kernel
theorem dX9_lay_6 : decode cX9_lay 6 = .ok (.aload_n 0, 1) := by decide +kernel
theorem dX9_lay_7 : decode cX9_lay 7 = .ok (.getfield 18, 3) := by decide +kernel
theorem dX9_lay_10 : decode cX9_lay 10 = .ok (.invokestatic 22, 3) := by decide +kernel
theorem dX9_lay_13 : decode cX9_lay 13 = .ok (.putfield 26, 3) := by decide +kernel
theorem dX9_lay_16 : decode cX9_lay 16 = .ok (.aload_n 0, 1) := by decide +kernel
theorem dX9_lay_17 : decode cX9_lay 17 = .ok (.aload_n 1, 1) := by decide +kernel
theorem dX9_lay_18 : decode cX9_lay 18 = .ok (.getfield 29, 3) := by decide +kernel
theorem dX9_lay_21 : decode cX9_lay 21 = .ok (.iconst 0, 1) := by decide +kernel
theorem dX9_lay_22 : decode cX9_lay 22 = .ok (.iaload, 1) := by decide +kernel
theorem dX9_lay_23 : decode cX9_lay 23 = .ok (.aload_n 0, 1) := by decide +kernel
theorem dX9_lay_24 : decode cX9_lay 24 = .ok (.getfield 26, 3) := by decide +kernel
theorem dX9_lay_27 : decode cX9_lay 27 = .ok (.ishr, 1) := by decide +kernel
theorem dX9_lay_28 : decode cX9_lay 28 = .ok (.putfield 35, 3) := by decide +kernel
theorem dX9_lay_31 : decode cX9_lay 31 = .ok (.aload_n 0, 1) := by decide +kernel
theorem dX9_lay_32 : decode cX9_lay 32 = .ok (.aload_n 1, 1) := by decide +kernel
theorem dX9_lay_33 : decode cX9_lay 33 = .ok (.getfield 29, 3) := by decide +kernel
theorem dX9_lay_36 : decode cX9_lay 36 = .ok (.iconst 1, 1) := by decide +kernel
theorem dX9_lay_37 : decode cX9_lay 37 = .ok (.iaload, 1) := by decide +kernel
theorem dX9_lay_38 : decode cX9_lay 38 = .ok (.aload_n 0, 1) := by decide +kernel
theorem dX9_lay_39 : decode cX9_lay 39 = .ok (.getfield 26, 3) := by decide +kernel
theorem dX9_lay_42 : decode cX9_lay 42 = .ok (.ishl, 1) := by decide +kernel
theorem dX9_lay_43 : decode cX9_lay 43 = .ok (.putfield 38, 3) := by decide +kernel
theorem dX9_lay_46 : decode cX9_lay 46 = .ok (.aload_n 0, 1) := by decide +kernel
theorem dX9_lay_47 : decode cX9_lay 47 = .ok (.getfield 12, 3) := by decide +kernel
theorem dX9_lay_50 : decode cX9_lay 50 = .ok (.aload_n 1, 1) := by decide +kernel
theorem dX9_lay_51 : decode cX9_lay 51 = .ok (.invokevirtual 41, 3) := by decide +kernel
theorem dX9_lay_54 : decode cX9_lay 54 = .ok (.return_, 1) := by decide +kernel
theorem dX9_rowOf_0 : decode cX9_rowOf 0 = .ok (.iload_n 1, 1) := by decide +kernel
theorem dX9_rowOf_1 : decode cX9_rowOf 1 = .ok (.aload_n 0, 1) := by decide +kernel
theorem dX9_rowOf_2 : decode cX9_rowOf 2 = .ok (.getfield 26, 3) := by decide +kernel
theorem dX9_rowOf_5 : decode cX9_rowOf 5 = .ok (.ishr, 1) := by decide +kernel
theorem dX9_rowOf_6 : decode cX9_rowOf 6 = .ok (.ireturn, 1) := by decide +kernel
theorem dX9_columnOf_0 : decode cX9_columnOf 0 = .ok (.iload_n 2, 1) := by decide +kernel
theorem dX9_columnOf_1 : decode cX9_columnOf 1 = .ok (.aload_n 0, 1) := by decide +kernel
theorem dX9_columnOf_2 : decode cX9_columnOf 2 = .ok (.getfield 26, 3) := by decide +kernel
theorem dX9_columnOf_5 : decode cX9_columnOf 5 = .ok (.ishl, 1) := by decide +kernel
theorem dX9_columnOf_6 : decode cX9_columnOf 6 = .ok (.aload_n 0, 1) := by decide +kernel
theorem dX9_columnOf_7 : decode cX9_columnOf 7 = .ok (.iload_n 1, 1) := by decide +kernel
theorem dX9_columnOf_8 : decode cX9_columnOf 8 = .ok (.invokevirtual 45, 3) := by decide +kernel
theorem dX9_columnOf_11 : decode cX9_columnOf 11 = .ok (.iadd, 1) := by decide +kernel
theorem dX9_columnOf_12 : decode cX9_columnOf 12 = .ok (.ireturn, 1) := by decide +kernel
theorem dX9_offset_0 : decode cX9_offset 0 = .ok (.iload_n 1, 1) := by decide +kernel
theorem dX9_offset_1 : decode cX9_offset 1 = .ok (.aload_n 0, 1) := by decide +kernel
theorem dX9_offset_2 : decode cX9_offset 2 = .ok (.getfield 18, 3) := by decide +kernel
theorem dX9_offset_5 : decode cX9_offset 5 = .ok (.iconst 1, 1) := by decide +kernel
theorem dX9_offset_6 : decode cX9_offset 6 = .ok (.isub, 1) := by decide +kernel
theorem dX9_offset_7 : decode cX9_offset 7 = .ok (.iand, 1) := by decide +kernel
theorem dX9_offset_8 : decode cX9_offset 8 = .ok (.ireturn, 1) := by decide +kernel
theorem dX9_rowPlace_0 : decode cX9_rowPlace 0 = .ok (.iconst 0, 1) := by decide +kernel
theorem dX9_rowPlace_1 : decode cX9_rowPlace 1 = .ok (.istore_n 2, 1) := by decide +kernel
theorem dX9_rowPlace_2 : decode cX9_rowPlace 2 = .ok (.iload_n 2, 1) := by decide +kernel
theorem dX9_rowPlace_3 : decode cX9_rowPlace 3 = .ok (.aload_n 0, 1) := by decide +kernel
theorem dX9_rowPlace_4 : decode cX9_rowPlace 4 = .ok (.getfield 12, 3) := by decide +kernel
theorem dX9_rowPlace_7 : decode cX9_rowPlace 7 = .ok (.getfield 48, 3) := by decide +kernel
theorem dX9_rowPlace_10 : decode cX9_rowPlace 10 = .ok (.if_icmp .ge 29, 3) := by decide +kernel
theorem dX9_rowPlace_13 : decode cX9_rowPlace 13 = .ok (.aload_n 0, 1) := by decide +kernel
theorem dX9_rowPlace_14 : decode cX9_rowPlace 14 = .ok (.getfield 12, 3) := by decide +kernel
theorem dX9_rowPlace_17 : decode cX9_rowPlace 17 = .ok (.getfield 51, 3) := by decide +kernel
theorem dX9_rowPlace_20 : decode cX9_rowPlace 20 = .ok (.iload_n 2, 1) := by decide +kernel
theorem dX9_rowPlace_21 : decode cX9_rowPlace 21 = .ok (.iaload, 1) := by decide +kernel
theorem dX9_rowPlace_22 : decode cX9_rowPlace 22 = .ok (.iload_n 1, 1) := by decide +kernel
theorem dX9_rowPlace_23 : decode cX9_rowPlace 23 = .ok (.if_icmp .ne 10, 3) := by decide +kernel
theorem dX9_rowPlace_26 : decode cX9_rowPlace 26 = .ok (.aload_n 0, 1) := by decide +kernel
theorem dX9_rowPlace_27 : decode cX9_rowPlace 27 = .ok (.getfield 35, 3) := by decide +kernel
theorem dX9_rowPlace_30 : decode cX9_rowPlace 30 = .ok (.iload_n 2, 1) := by decide +kernel
theorem dX9_rowPlace_31 : decode cX9_rowPlace 31 = .ok (.iadd, 1) := by decide +kernel
theorem dX9_rowPlace_32 : decode cX9_rowPlace 32 = .ok (.ireturn, 1) := by decide +kernel
theorem dX9_rowPlace_33 : decode cX9_rowPlace 33 = .ok (.iinc 2 1, 3) := by decide +kernel
theorem dX9_rowPlace_36 : decode cX9_rowPlace 36 = .ok (.goto (-34), 3) := by decide +kernel
theorem dX9_rowPlace_39 : decode cX9_rowPlace 39 = .ok (.iload_n 1, 1) := by decide +kernel
theorem dX9_rowPlace_40 : decode cX9_rowPlace 40 = .ok (.ireturn, 1) := by decide +kernel
theorem dX9_columnPlace_0 : decode cX9_columnPlace 0 = .ok (.iconst 0, 1) := by decide +kernel
theorem dX9_columnPlace_1 : decode cX9_columnPlace 1 = .ok (.istore_n 2, 1) := by decide +kernel
theorem dX9_columnPlace_2 : decode cX9_columnPlace 2 = .ok (.iload_n 2, 1) := by decide +kernel
theorem dX9_columnPlace_3 : decode cX9_columnPlace 3 = .ok (.aload_n 0, 1) := by decide +kernel
theorem dX9_columnPlace_4 : decode cX9_columnPlace 4 = .ok (.getfield 12, 3) := by decide +kernel
theorem dX9_columnPlace_7 : decode cX9_columnPlace 7 = .ok (.getfield 53, 3) := by decide +kernel
theorem dX9_columnPlace_10 : decode cX9_columnPlace 10 = .ok (.if_icmp .ge 29, 3) := by decide +kernel
theorem dX9_columnPlace_13 : decode cX9_columnPlace 13 = .ok (.aload_n 0, 1) := by decide +kernel
theorem dX9_columnPlace_14 : decode cX9_columnPlace 14 = .ok (.getfield 12, 3) := by decide +kernel
theorem dX9_columnPlace_17 : decode cX9_columnPlace 17 = .ok (.getfield 56, 3) := by decide +kernel
theorem dX9_columnPlace_20 : decode cX9_columnPlace 20 = .ok (.iload_n 2, 1) := by decide +kernel
theorem dX9_columnPlace_21 : decode cX9_columnPlace 21 = .ok (.iaload, 1) := by decide +kernel
theorem dX9_columnPlace_22 : decode cX9_columnPlace 22 = .ok (.iload_n 1, 1) := by decide +kernel
theorem dX9_columnPlace_23 : decode cX9_columnPlace 23 = .ok (.if_icmp .ne 10, 3) := by decide +kernel
theorem dX9_columnPlace_26 : decode cX9_columnPlace 26 = .ok (.aload_n 0, 1) := by decide +kernel
theorem dX9_columnPlace_27 : decode cX9_columnPlace 27 = .ok (.getfield 38, 3) := by decide +kernel
theorem dX9_columnPlace_30 : decode cX9_columnPlace 30 = .ok (.iload_n 2, 1) := by decide +kernel
theorem dX9_columnPlace_31 : decode cX9_columnPlace 31 = .ok (.iadd, 1) := by decide +kernel
theorem dX9_columnPlace_32 : decode cX9_columnPlace 32 = .ok (.ireturn, 1) := by decide +kernel
theorem dX9_columnPlace_33 : decode cX9_columnPlace 33 = .ok (.iinc 2 1, 3) := by decide +kernel
theorem dX9_columnPlace_36 : decode cX9_columnPlace 36 = .ok (.goto (-34), 3) := by decide +kernel
theorem dX9_columnPlace_39 : decode cX9_columnPlace 39 = .ok (.iload_n 1, 1) := by decide +kernel
theorem dX9_columnPlace_40 : decode cX9_columnPlace 40 = .ok (.ireturn, 1) := by decide +kernel
theorem dX9_word_0 : decode cX9_word 0 = .ok (.aload_n 0, 1) := by decide +kernel
theorem dX9_word_1 : decode cX9_word 1 = .ok (.aload_n 0, 1) := by decide +kernel
theorem dX9_word_2 : decode cX9_word 2 = .ok (.iload_n 2, 1) := by decide +kernel
theorem dX9_word_3 : decode cX9_word 3 = .ok (.invokevirtual 58, 3) := by decide +kernel
theorem dX9_word_6 : decode cX9_word 6 = .ok (.invokevirtual 61, 3) := by decide +kernel
theorem dX9_word_9 : decode cX9_word 9 = .ok (.istore_n 3, 1) := by decide +kernel
theorem dX9_word_10 : decode cX9_word 10 = .ok (.aload_n 1, 1) := by decide +kernel
theorem dX9_word_11 : decode cX9_word 11 = .ok (.iload_n 3, 1) := by decide +kernel
theorem dX9_word_12 : decode cX9_word 12 = .ok (.aload_n 0, 1) := by decide +kernel
theorem dX9_word_13 : decode cX9_word 13 = .ok (.getfield 26, 3) := by decide +kernel
theorem dX9_word_16 : decode cX9_word 16 = .ok (.ishl, 1) := by decide +kernel
theorem dX9_word_17 : decode cX9_word 17 = .ok (.aload_n 0, 1) := by decide +kernel
theorem dX9_word_18 : decode cX9_word 18 = .ok (.iload_n 2, 1) := by decide +kernel
theorem dX9_word_19 : decode cX9_word 19 = .ok (.invokevirtual 45, 3) := by decide +kernel
theorem dX9_word_22 : decode cX9_word 22 = .ok (.iadd, 1) := by decide +kernel
theorem dX9_word_23 : decode cX9_word 23 = .ok (.invokevirtual 64, 3) := by decide +kernel
theorem dX9_word_26 : decode cX9_word 26 = .ok (.istore 4, 2) := by decide +kernel
theorem dX9_word_28 : decode cX9_word 28 = .ok (.iconst 0, 1) := by decide +kernel
theorem dX9_word_29 : decode cX9_word 29 = .ok (.istore 5, 2) := by decide +kernel
theorem dX9_word_31 : decode cX9_word 31 = .ok (.iload 5, 2) := by decide +kernel
theorem dX9_word_33 : decode cX9_word 33 = .ok (.aload_n 0, 1) := by decide +kernel
theorem dX9_word_34 : decode cX9_word 34 = .ok (.getfield 12, 3) := by decide +kernel
theorem dX9_word_37 : decode cX9_word 37 = .ok (.getfield 53, 3) := by decide +kernel
theorem dX9_word_40 : decode cX9_word 40 = .ok (.if_icmp .ge 56, 3) := by decide +kernel
theorem dX9_word_43 : decode cX9_word 43 = .ok (.aload_n 0, 1) := by decide +kernel
theorem dX9_word_44 : decode cX9_word 44 = .ok (.getfield 12, 3) := by decide +kernel
theorem dX9_word_47 : decode cX9_word 47 = .ok (.getfield 56, 3) := by decide +kernel
theorem dX9_word_50 : decode cX9_word 50 = .ok (.iload 5, 2) := by decide +kernel
theorem dX9_word_52 : decode cX9_word 52 = .ok (.iaload, 1) := by decide +kernel
theorem dX9_word_53 : decode cX9_word 53 = .ok (.istore 6, 2) := by decide +kernel
theorem dX9_word_55 : decode cX9_word 55 = .ok (.aload_n 0, 1) := by decide +kernel
theorem dX9_word_56 : decode cX9_word 56 = .ok (.iload 6, 2) := by decide +kernel
theorem dX9_word_58 : decode cX9_word 58 = .ok (.invokevirtual 45, 3) := by decide +kernel
theorem dX9_word_61 : decode cX9_word 61 = .ok (.aload_n 0, 1) := by decide +kernel
theorem dX9_word_62 : decode cX9_word 62 = .ok (.iload_n 2, 1) := by decide +kernel
theorem dX9_word_63 : decode cX9_word 63 = .ok (.invokevirtual 45, 3) := by decide +kernel
theorem dX9_word_66 : decode cX9_word 66 = .ok (.if_icmp .ne 24, 3) := by decide +kernel
theorem dX9_word_69 : decode cX9_word 69 = .ok (.iload 4, 2) := by decide +kernel
theorem dX9_word_71 : decode cX9_word 71 = .ok (.iload 6, 2) := by decide +kernel
theorem dX9_word_73 : decode cX9_word 73 = .ok (.aload_n 0, 1) := by decide +kernel
theorem dX9_word_74 : decode cX9_word 74 = .ok (.getfield 26, 3) := by decide +kernel
theorem dX9_word_77 : decode cX9_word 77 = .ok (.ishr, 1) := by decide +kernel
theorem dX9_word_78 : decode cX9_word 78 = .ok (.aload_n 1, 1) := by decide +kernel
theorem dX9_word_79 : decode cX9_word 79 = .ok (.iload_n 3, 1) := by decide +kernel
theorem dX9_word_80 : decode cX9_word 80 = .ok (.iload 5, 2) := by decide +kernel
theorem dX9_word_82 : decode cX9_word 82 = .ok (.invokevirtual 69, 3) := by decide +kernel
theorem dX9_word_85 : decode cX9_word 85 = .ok (.invokestatic 73, 3) := by decide +kernel
theorem dX9_word_88 : decode cX9_word 88 = .ok (.istore 4, 2) := by decide +kernel
theorem dX9_word_90 : decode cX9_word 90 = .ok (.iinc 5 1, 3) := by decide +kernel
theorem dX9_word_93 : decode cX9_word 93 = .ok (.goto (-62), 3) := by decide +kernel
theorem dX9_word_96 : decode cX9_word 96 = .ok (.aload_n 0, 1) := by decide +kernel
theorem dX9_word_97 : decode cX9_word 97 = .ok (.getfield 12, 3) := by decide +kernel
theorem dX9_word_100 : decode cX9_word 100 = .ok (.getfield 77, 3) := by decide +kernel
theorem dX9_word_103 : decode cX9_word 103 = .ok (.ifCond .eq 8, 3) := by decide +kernel
theorem dX9_word_106 : decode cX9_word 106 = .ok (.iload 4, 2) := by decide +kernel
theorem dX9_word_108 : decode cX9_word 108 = .ok (.goto 14, 3) := by decide +kernel
theorem dX9_word_111 : decode cX9_word 111 = .ok (.aload_n 0, 1) := by decide +kernel
theorem dX9_word_112 : decode cX9_word 112 = .ok (.aload_n 1, 1) := by decide +kernel
theorem dX9_word_113 : decode cX9_word 113 = .ok (.getfield 81, 3) := by decide +kernel
theorem dX9_word_116 : decode cX9_word 116 = .ok (.iload_n 2, 1) := by decide +kernel
theorem dX9_word_117 : decode cX9_word 117 = .ok (.iload 4, 2) := by decide +kernel
theorem dX9_word_119 : decode cX9_word 119 = .ok (.invokevirtual 85, 3) := by decide +kernel
theorem dX9_word_122 : decode cX9_word 122 = .ok (.ireturn, 1) := by decide +kernel
theorem dX9_withStuck_0 : decode cX9_withStuck 0 = .ok (.iload_n 3, 1) := by decide +kernel
theorem dX9_withStuck_1 : decode cX9_withStuck 1 = .ok (.istore 4, 2) := by decide +kernel
theorem dX9_withStuck_3 : decode cX9_withStuck 3 = .ok (.iconst 0, 1) := by decide +kernel
theorem dX9_withStuck_4 : decode cX9_withStuck 4 = .ok (.istore 5, 2) := by decide +kernel
theorem dX9_withStuck_6 : decode cX9_withStuck 6 = .ok (.iload 5, 2) := by decide +kernel
theorem dX9_withStuck_8 : decode cX9_withStuck 8 = .ok (.aload_n 1, 1) := by decide +kernel
theorem dX9_withStuck_9 : decode cX9_withStuck 9 = .ok (.getfield 89, 3) := by decide +kernel
theorem dX9_withStuck_12 : decode cX9_withStuck 12 = .ok (.if_icmp .ge 68, 3) := by decide +kernel
theorem dX9_withStuck_15 : decode cX9_withStuck 15 = .ok (.aload_n 1, 1) := by decide +kernel
theorem dX9_withStuck_16 : decode cX9_withStuck 16 = .ok (.getfield 92, 3) := by decide +kernel
theorem dX9_withStuck_19 : decode cX9_withStuck 19 = .ok (.iload 5, 2) := by decide +kernel
theorem dX9_withStuck_21 : decode cX9_withStuck 21 = .ok (.iaload, 1) := by decide +kernel
theorem dX9_withStuck_22 : decode cX9_withStuck 22 = .ok (.istore 6, 2) := by decide +kernel
theorem dX9_withStuck_24 : decode cX9_withStuck 24 = .ok (.aload_n 1, 1) := by decide +kernel
theorem dX9_withStuck_25 : decode cX9_withStuck 25 = .ok (.getfield 95, 3) := by decide +kernel
theorem dX9_withStuck_28 : decode cX9_withStuck 28 = .ok (.iload 5, 2) := by decide +kernel
theorem dX9_withStuck_30 : decode cX9_withStuck 30 = .ok (.iaload, 1) := by decide +kernel
theorem dX9_withStuck_31 : decode cX9_withStuck 31 = .ok (.aload_n 0, 1) := by decide +kernel
theorem dX9_withStuck_32 : decode cX9_withStuck 32 = .ok (.iload_n 2, 1) := by decide +kernel
theorem dX9_withStuck_33 : decode cX9_withStuck 33 = .ok (.invokevirtual 58, 3) := by decide +kernel
theorem dX9_withStuck_36 : decode cX9_withStuck 36 = .ok (.if_icmp .ne 38, 3) := by decide +kernel
theorem dX9_withStuck_39 : decode cX9_withStuck 39 = .ok (.aload_n 0, 1) := by decide +kernel
theorem dX9_withStuck_40 : decode cX9_withStuck 40 = .ok (.iload 6, 2) := by decide +kernel
theorem dX9_withStuck_42 : decode cX9_withStuck 42 = .ok (.invokevirtual 45, 3) := by decide +kernel
theorem dX9_withStuck_45 : decode cX9_withStuck 45 = .ok (.aload_n 0, 1) := by decide +kernel
theorem dX9_withStuck_46 : decode cX9_withStuck 46 = .ok (.iload_n 2, 1) := by decide +kernel
theorem dX9_withStuck_47 : decode cX9_withStuck 47 = .ok (.invokevirtual 45, 3) := by decide +kernel
theorem dX9_withStuck_50 : decode cX9_withStuck 50 = .ok (.if_icmp .ne 24, 3) := by decide +kernel
theorem dX9_withStuck_53 : decode cX9_withStuck 53 = .ok (.iload 4, 2) := by decide +kernel
theorem dX9_withStuck_55 : decode cX9_withStuck 55 = .ok (.iload 6, 2) := by decide +kernel
theorem dX9_withStuck_57 : decode cX9_withStuck 57 = .ok (.aload_n 0, 1) := by decide +kernel
theorem dX9_withStuck_58 : decode cX9_withStuck 58 = .ok (.getfield 26, 3) := by decide +kernel
theorem dX9_withStuck_61 : decode cX9_withStuck 61 = .ok (.ishr, 1) := by decide +kernel
theorem dX9_withStuck_62 : decode cX9_withStuck 62 = .ok (.aload_n 1, 1) := by decide +kernel
theorem dX9_withStuck_63 : decode cX9_withStuck 63 = .ok (.getfield 98, 3) := by decide +kernel
theorem dX9_withStuck_66 : decode cX9_withStuck 66 = .ok (.iload 5, 2) := by decide +kernel
theorem dX9_withStuck_68 : decode cX9_withStuck 68 = .ok (.iaload, 1) := by decide +kernel
theorem dX9_withStuck_69 : decode cX9_withStuck 69 = .ok (.invokestatic 73, 3) := by decide +kernel
theorem dX9_withStuck_72 : decode cX9_withStuck 72 = .ok (.istore 4, 2) := by decide +kernel
theorem dX9_withStuck_74 : decode cX9_withStuck 74 = .ok (.iinc 5 1, 3) := by decide +kernel
theorem dX9_withStuck_77 : decode cX9_withStuck 77 = .ok (.goto (-71), 3) := by decide +kernel
theorem dX9_withStuck_80 : decode cX9_withStuck 80 = .ok (.iload 4, 2) := by decide +kernel
theorem dX9_withStuck_82 : decode cX9_withStuck 82 = .ok (.ireturn, 1) := by decide +kernel
theorem dX9_putWord_0 : decode cX9_putWord 0 = .ok (.aload_n 1, 1) := by decide +kernel
theorem dX9_putWord_1 : decode cX9_putWord 1 = .ok (.getfield 81, 3) := by decide +kernel
theorem dX9_putWord_4 : decode cX9_putWord 4 = .ok (.getfield 29, 3) := by decide +kernel
theorem dX9_putWord_7 : decode cX9_putWord 7 = .ok (.iconst 1, 1) := by decide +kernel
theorem dX9_putWord_8 : decode cX9_putWord 8 = .ok (.iaload, 1) := by decide +kernel
theorem dX9_putWord_9 : decode cX9_putWord 9 = .ok (.istore 4, 2) := by decide +kernel
theorem dX9_putWord_11 : decode cX9_putWord 11 = .ok (.aload_n 0, 1) := by decide +kernel
theorem dX9_putWord_12 : decode cX9_putWord 12 = .ok (.aload_n 0, 1) := by decide +kernel
theorem dX9_putWord_13 : decode cX9_putWord 13 = .ok (.iload_n 2, 1) := by decide +kernel
theorem dX9_putWord_14 : decode cX9_putWord 14 = .ok (.invokevirtual 58, 3) := by decide +kernel
theorem dX9_putWord_17 : decode cX9_putWord 17 = .ok (.invokevirtual 61, 3) := by decide +kernel
theorem dX9_putWord_20 : decode cX9_putWord 20 = .ok (.istore 5, 2) := by decide +kernel
theorem dX9_putWord_22 : decode cX9_putWord 22 = .ok (.iload 4, 2) := by decide +kernel
theorem dX9_putWord_24 : decode cX9_putWord 24 = .ok (.bipush 32, 2) := by decide +kernel
theorem dX9_putWord_26 : decode cX9_putWord 26 = .ok (.if_icmp .lt 7, 3) := by decide +kernel
theorem dX9_putWord_29 : decode cX9_putWord 29 = .ok (.iconst (-1), 1) := by decide +kernel
theorem dX9_putWord_30 : decode cX9_putWord 30 = .ok (.goto 9, 3) := by decide +kernel
theorem dX9_putWord_33 : decode cX9_putWord 33 = .ok (.iconst 1, 1) := by decide +kernel
theorem dX9_putWord_34 : decode cX9_putWord 34 = .ok (.iload 4, 2) := by decide +kernel
theorem dX9_putWord_36 : decode cX9_putWord 36 = .ok (.ishl, 1) := by decide +kernel
theorem dX9_putWord_37 : decode cX9_putWord 37 = .ok (.iconst 1, 1) := by decide +kernel
theorem dX9_putWord_38 : decode cX9_putWord 38 = .ok (.isub, 1) := by decide +kernel
theorem dX9_putWord_39 : decode cX9_putWord 39 = .ok (.istore 6, 2) := by decide +kernel
theorem dX9_putWord_41 : decode cX9_putWord 41 = .ok (.iconst 0, 1) := by decide +kernel
theorem dX9_putWord_42 : decode cX9_putWord 42 = .ok (.istore 7, 2) := by decide +kernel
theorem dX9_putWord_44 : decode cX9_putWord 44 = .ok (.iload 7, 2) := by decide +kernel
theorem dX9_putWord_46 : decode cX9_putWord 46 = .ok (.aload_n 0, 1) := by decide +kernel
theorem dX9_putWord_47 : decode cX9_putWord 47 = .ok (.getfield 12, 3) := by decide +kernel
theorem dX9_putWord_50 : decode cX9_putWord 50 = .ok (.getfield 53, 3) := by decide +kernel
theorem dX9_putWord_53 : decode cX9_putWord 53 = .ok (.if_icmp .ge 68, 3) := by decide +kernel
theorem dX9_putWord_56 : decode cX9_putWord 56 = .ok (.aload_n 0, 1) := by decide +kernel
theorem dX9_putWord_57 : decode cX9_putWord 57 = .ok (.getfield 12, 3) := by decide +kernel
theorem dX9_putWord_60 : decode cX9_putWord 60 = .ok (.getfield 56, 3) := by decide +kernel
theorem dX9_putWord_63 : decode cX9_putWord 63 = .ok (.iload 7, 2) := by decide +kernel
theorem dX9_putWord_65 : decode cX9_putWord 65 = .ok (.iaload, 1) := by decide +kernel
theorem dX9_putWord_66 : decode cX9_putWord 66 = .ok (.istore 8, 2) := by decide +kernel
theorem dX9_putWord_68 : decode cX9_putWord 68 = .ok (.iload 8, 2) := by decide +kernel
theorem dX9_putWord_70 : decode cX9_putWord 70 = .ok (.aload_n 0, 1) := by decide +kernel
theorem dX9_putWord_71 : decode cX9_putWord 71 = .ok (.getfield 26, 3) := by decide +kernel
theorem dX9_putWord_74 : decode cX9_putWord 74 = .ok (.ishr, 1) := by decide +kernel
theorem dX9_putWord_75 : decode cX9_putWord 75 = .ok (.istore 9, 2) := by decide +kernel
theorem dX9_putWord_77 : decode cX9_putWord 77 = .ok (.aload_n 0, 1) := by decide +kernel
theorem dX9_putWord_78 : decode cX9_putWord 78 = .ok (.iload 8, 2) := by decide +kernel
theorem dX9_putWord_80 : decode cX9_putWord 80 = .ok (.invokevirtual 45, 3) := by decide +kernel
theorem dX9_putWord_83 : decode cX9_putWord 83 = .ok (.aload_n 0, 1) := by decide +kernel
theorem dX9_putWord_84 : decode cX9_putWord 84 = .ok (.iload_n 2, 1) := by decide +kernel
theorem dX9_putWord_85 : decode cX9_putWord 85 = .ok (.invokevirtual 45, 3) := by decide +kernel
theorem dX9_putWord_88 : decode cX9_putWord 88 = .ok (.if_icmp .ne 27, 3) := by decide +kernel
theorem dX9_putWord_91 : decode cX9_putWord 91 = .ok (.aload_n 1, 1) := by decide +kernel
theorem dX9_putWord_92 : decode cX9_putWord 92 = .ok (.iload 5, 2) := by decide +kernel
theorem dX9_putWord_94 : decode cX9_putWord 94 = .ok (.iload 7, 2) := by decide +kernel
theorem dX9_putWord_96 : decode cX9_putWord 96 = .ok (.iload_n 3, 1) := by decide +kernel
theorem dX9_putWord_97 : decode cX9_putWord 97 = .ok (.iload 9, 2) := by decide +kernel
theorem dX9_putWord_99 : decode cX9_putWord 99 = .ok (.iushr, 1) := by decide +kernel
theorem dX9_putWord_100 : decode cX9_putWord 100 = .ok (.iconst 1, 1) := by decide +kernel
theorem dX9_putWord_101 : decode cX9_putWord 101 = .ok (.iand, 1) := by decide +kernel
theorem dX9_putWord_102 : decode cX9_putWord 102 = .ok (.invokevirtual 101, 3) := by decide +kernel
theorem dX9_putWord_105 : decode cX9_putWord 105 = .ok (.iload 6, 2) := by decide +kernel
theorem dX9_putWord_107 : decode cX9_putWord 107 = .ok (.iload 9, 2) := by decide +kernel
theorem dX9_putWord_109 : decode cX9_putWord 109 = .ok (.iconst 0, 1) := by decide +kernel
theorem dX9_putWord_110 : decode cX9_putWord 110 = .ok (.invokestatic 73, 3) := by decide +kernel
theorem dX9_putWord_113 : decode cX9_putWord 113 = .ok (.istore 6, 2) := by decide +kernel
theorem dX9_putWord_115 : decode cX9_putWord 115 = .ok (.iinc 7 1, 3) := by decide +kernel
theorem dX9_putWord_118 : decode cX9_putWord 118 = .ok (.goto (-74), 3) := by decide +kernel
theorem dX9_putWord_121 : decode cX9_putWord 121 = .ok (.iload 5, 2) := by decide +kernel
theorem dX9_putWord_123 : decode cX9_putWord 123 = .ok (.aload_n 0, 1) := by decide +kernel
theorem dX9_putWord_124 : decode cX9_putWord 124 = .ok (.getfield 26, 3) := by decide +kernel
theorem dX9_putWord_127 : decode cX9_putWord 127 = .ok (.ishl, 1) := by decide +kernel
theorem dX9_putWord_128 : decode cX9_putWord 128 = .ok (.aload_n 0, 1) := by decide +kernel
theorem dX9_putWord_129 : decode cX9_putWord 129 = .ok (.iload_n 2, 1) := by decide +kernel
theorem dX9_putWord_130 : decode cX9_putWord 130 = .ok (.invokevirtual 45, 3) := by decide +kernel
theorem dX9_putWord_133 : decode cX9_putWord 133 = .ok (.iadd, 1) := by decide +kernel
theorem dX9_putWord_134 : decode cX9_putWord 134 = .ok (.istore 7, 2) := by decide +kernel
theorem dX9_putWord_136 : decode cX9_putWord 136 = .ok (.aload_n 1, 1) := by decide +kernel
theorem dX9_putWord_137 : decode cX9_putWord 137 = .ok (.iload 7, 2) := by decide +kernel
theorem dX9_putWord_139 : decode cX9_putWord 139 = .ok (.aload_n 1, 1) := by decide +kernel
theorem dX9_putWord_140 : decode cX9_putWord 140 = .ok (.iload 7, 2) := by decide +kernel
theorem dX9_putWord_142 : decode cX9_putWord 142 = .ok (.invokevirtual 64, 3) := by decide +kernel
theorem dX9_putWord_145 : decode cX9_putWord 145 = .ok (.iload 6, 2) := by decide +kernel
theorem dX9_putWord_147 : decode cX9_putWord 147 = .ok (.iconst (-1), 1) := by decide +kernel
theorem dX9_putWord_148 : decode cX9_putWord 148 = .ok (.ixor, 1) := by decide +kernel
theorem dX9_putWord_149 : decode cX9_putWord 149 = .ok (.iand, 1) := by decide +kernel
theorem dX9_putWord_150 : decode cX9_putWord 150 = .ok (.iload_n 3, 1) := by decide +kernel
theorem dX9_putWord_151 : decode cX9_putWord 151 = .ok (.iload 6, 2) := by decide +kernel
theorem dX9_putWord_153 : decode cX9_putWord 153 = .ok (.iand, 1) := by decide +kernel
theorem dX9_putWord_154 : decode cX9_putWord 154 = .ok (.ior, 1) := by decide +kernel
theorem dX9_putWord_155 : decode cX9_putWord 155 = .ok (.invokevirtual 105, 3) := by decide +kernel
theorem dX9_putWord_158 : decode cX9_putWord 158 = .ok (.return_, 1) := by decide +kernel
theorem dX9_ones_0 : decode cX9_ones 0 = .ok (.iconst 0, 1) := by decide +kernel
theorem dX9_ones_1 : decode cX9_ones 1 = .ok (.istore_n 2, 1) := by decide +kernel
theorem dX9_ones_2 : decode cX9_ones 2 = .ok (.aload_n 1, 1) := by decide +kernel
theorem dX9_ones_3 : decode cX9_ones 3 = .ok (.getfield 81, 3) := by decide +kernel
theorem dX9_ones_6 : decode cX9_ones 6 = .ok (.getfield 29, 3) := by decide +kernel
theorem dX9_ones_9 : decode cX9_ones 9 = .ok (.iconst 0, 1) := by decide +kernel
theorem dX9_ones_10 : decode cX9_ones 10 = .ok (.iaload, 1) := by decide +kernel
theorem dX9_ones_11 : decode cX9_ones 11 = .ok (.istore_n 3, 1) := by decide +kernel
theorem dX9_ones_12 : decode cX9_ones 12 = .ok (.iconst 0, 1) := by decide +kernel
theorem dX9_ones_13 : decode cX9_ones 13 = .ok (.istore 4, 2) := by decide +kernel
theorem dX9_ones_15 : decode cX9_ones 15 = .ok (.iload 4, 2) := by decide +kernel
theorem dX9_ones_17 : decode cX9_ones 17 = .ok (.iload_n 3, 1) := by decide +kernel
theorem dX9_ones_18 : decode cX9_ones 18 = .ok (.if_icmp .ge 22, 3) := by decide +kernel
theorem dX9_ones_21 : decode cX9_ones 21 = .ok (.iload_n 2, 1) := by decide +kernel
theorem dX9_ones_22 : decode cX9_ones 22 = .ok (.aload_n 0, 1) := by decide +kernel
theorem dX9_ones_23 : decode cX9_ones 23 = .ok (.aload_n 1, 1) := by decide +kernel
theorem dX9_ones_24 : decode cX9_ones 24 = .ok (.iload 4, 2) := by decide +kernel
theorem dX9_ones_26 : decode cX9_ones 26 = .ok (.invokevirtual 109, 3) := by decide +kernel
theorem dX9_ones_29 : decode cX9_ones 29 = .ok (.invokestatic 113, 3) := by decide +kernel
theorem dX9_ones_32 : decode cX9_ones 32 = .ok (.iadd, 1) := by decide +kernel
theorem dX9_ones_33 : decode cX9_ones 33 = .ok (.istore_n 2, 1) := by decide +kernel
theorem dX9_ones_34 : decode cX9_ones 34 = .ok (.iinc 4 1, 3) := by decide +kernel
theorem dX9_ones_37 : decode cX9_ones 37 = .ok (.goto (-22), 3) := by decide +kernel
theorem dX9_ones_40 : decode cX9_ones 40 = .ok (.iload_n 2, 1) := by decide +kernel
theorem dX9_ones_41 : decode cX9_ones 41 = .ok (.ireturn, 1) := by decide +kernel
theorem dX9_wrong_0 : decode cX9_wrong 0 = .ok (.iconst 0, 1) := by decide +kernel
theorem dX9_wrong_1 : decode cX9_wrong 1 = .ok (.istore_n 3, 1) := by decide +kernel
theorem dX9_wrong_2 : decode cX9_wrong 2 = .ok (.iconst 0, 1) := by decide +kernel
theorem dX9_wrong_3 : decode cX9_wrong 3 = .ok (.istore 4, 2) := by decide +kernel
theorem dX9_wrong_5 : decode cX9_wrong 5 = .ok (.iload 4, 2) := by decide +kernel
theorem dX9_wrong_7 : decode cX9_wrong 7 = .ok (.aload_n 1, 1) := by decide +kernel
theorem dX9_wrong_8 : decode cX9_wrong 8 = .ok (.getfield 89, 3) := by decide +kernel
theorem dX9_wrong_11 : decode cX9_wrong 11 = .ok (.if_icmp .ge 33, 3) := by decide +kernel
theorem dX9_wrong_14 : decode cX9_wrong 14 = .ok (.aload_n 0, 1) := by decide +kernel
theorem dX9_wrong_15 : decode cX9_wrong 15 = .ok (.getfield 12, 3) := by decide +kernel
theorem dX9_wrong_18 : decode cX9_wrong 18 = .ok (.getfield 77, 3) := by decide +kernel
theorem dX9_wrong_21 : decode cX9_wrong 21 = .ok (.ifCond .ne 23, 3) := by decide +kernel
theorem dX9_wrong_24 : decode cX9_wrong 24 = .ok (.aload_n 1, 1) := by decide +kernel
theorem dX9_wrong_25 : decode cX9_wrong 25 = .ok (.getfield 98, 3) := by decide +kernel
theorem dX9_wrong_28 : decode cX9_wrong 28 = .ok (.iload 4, 2) := by decide +kernel
theorem dX9_wrong_30 : decode cX9_wrong 30 = .ok (.iaload, 1) := by decide +kernel
theorem dX9_wrong_31 : decode cX9_wrong 31 = .ok (.iload_n 2, 1) := by decide +kernel
theorem dX9_wrong_32 : decode cX9_wrong 32 = .ok (.if_icmp .eq 6, 3) := by decide +kernel
theorem dX9_wrong_35 : decode cX9_wrong 35 = .ok (.iinc 3 1, 3) := by decide +kernel
theorem dX9_wrong_38 : decode cX9_wrong 38 = .ok (.iinc 4 1, 3) := by decide +kernel
theorem dX9_wrong_41 : decode cX9_wrong 41 = .ok (.goto (-36), 3) := by decide +kernel
theorem dX9_wrong_44 : decode cX9_wrong 44 = .ok (.iload_n 3, 1) := by decide +kernel
theorem dX9_wrong_45 : decode cX9_wrong 45 = .ok (.ireturn, 1) := by decide +kernel
theorem dX10_init_0 : decode cX10_init 0 = .ok (.aload_n 0, 1) := by decide +kernel
theorem dX10_init_1 : decode cX10_init 1 = .ok (.invokespecial 1, 3) := by decide +kernel
theorem dX10_init_4 : decode cX10_init 4 = .ok (.aload_n 0, 1) := by decide +kernel
theorem dX10_init_5 : decode cX10_init 5 = .ok (.new 7, 3) := by decide +kernel
theorem dX10_init_8 : decode cX10_init 8 = .ok (.dup, 1) := by decide +kernel
theorem dX10_init_9 : decode cX10_init 9 = .ok (.invokespecial 9, 3) := by decide +kernel
theorem dX10_init_12 : decode cX10_init 12 = .ok (.putfield 10, 3) := by decide +kernel
theorem dX10_init_15 : decode cX10_init 15 = .ok (.aload_n 0, 1) := by decide +kernel
theorem dX10_init_16 : decode cX10_init 16 = .ok (.iconst 3, 1) := by decide +kernel
theorem dX10_init_17 : decode cX10_init 17 = .ok (.anewarray 7, 3) := by decide +kernel
theorem dX10_init_20 : decode cX10_init 20 = .ok (.putfield 16, 3) := by decide +kernel
theorem dX10_init_23 : decode cX10_init 23 = .ok (.aload_n 0, 1) := by decide +kernel
theorem dX10_init_24 : decode cX10_init 24 = .ok (.new 20, 3) := by decide +kernel
theorem dX10_init_27 : decode cX10_init 27 = .ok (.dup, 1) := by decide +kernel
theorem dX10_init_28 : decode cX10_init 28 = .ok (.invokespecial 22, 3) := by decide +kernel
theorem dX10_init_31 : decode cX10_init 31 = .ok (.putfield 23, 3) := by decide +kernel
theorem dX10_init_34 : decode cX10_init 34 = .ok (.aload_n 0, 1) := by decide +kernel
theorem dX10_init_35 : decode cX10_init 35 = .ok (.new 27, 3) := by decide +kernel
theorem dX10_init_38 : decode cX10_init 38 = .ok (.dup, 1) := by decide +kernel
theorem dX10_init_39 : decode cX10_init 39 = .ok (.invokespecial 29, 3) := by decide +kernel
theorem dX10_init_42 : decode cX10_init 42 = .ok (.putfield 30, 3) := by decide +kernel
theorem dX10_init_45 : decode cX10_init 45 = .ok (.aload_n 0, 1) := by decide +kernel
theorem dX10_init_46 : decode cX10_init 46 = .ok (.new 34, 3) := by decide +kernel
theorem dX10_init_49 : decode cX10_init 49 = .ok (.dup, 1) := by decide +kernel
theorem dX10_init_50 : decode cX10_init 50 = .ok (.invokespecial 36, 3) := by decide +kernel
theorem dX10_init_53 : decode cX10_init 53 = .ok (.putfield 37, 3) := by decide +kernel
theorem dX10_init_56 : decode cX10_init 56 = .ok (.aload_n 0, 1) := by decide +kernel
theorem dX10_init_57 : decode cX10_init 57 = .ok (.new 41, 3) := by decide +kernel
theorem dX10_init_60 : decode cX10_init 60 = .ok (.dup, 1) := by decide +kernel
theorem dX10_init_61 : decode cX10_init 61 = .ok (.invokespecial 43, 3) := by decide +kernel
theorem dX10_init_64 : decode cX10_init 64 = .ok (.putfield 44, 3) := by decide +kernel
theorem dX10_init_67 : decode cX10_init 67 = .ok (.aload_n 0, 1) := by decide +kernel
theorem dX10_init_68 : decode cX10_init 68 = .ok (.new 48, 3) := by decide +kernel
theorem dX10_init_71 : decode cX10_init 71 = .ok (.dup, 1) := by decide +kernel
theorem dX10_init_72 : decode cX10_init 72 = .ok (.invokespecial 50, 3) := by decide +kernel
theorem dX10_init_75 : decode cX10_init 75 = .ok (.putfield 51, 3) := by decide +kernel
theorem dX10_init_78 : decode cX10_init 78 = .ok (.aload_n 0, 1) := by decide +kernel
theorem dX10_init_79 : decode cX10_init 79 = .ok (.new 55, 3) := by decide +kernel
theorem dX10_init_82 : decode cX10_init 82 = .ok (.dup, 1) := by decide +kernel
theorem dX10_init_83 : decode cX10_init 83 = .ok (.invokespecial 57, 3) := by decide +kernel
theorem dX10_init_86 : decode cX10_init 86 = .ok (.putfield 58, 3) := by decide +kernel
theorem dX10_init_89 : decode cX10_init 89 = .ok (.aload_n 0, 1) := by decide +kernel
theorem dX10_init_90 : decode cX10_init 90 = .ok (.invokevirtual 62, 3) := by decide +kernel
theorem dX10_init_93 : decode cX10_init 93 = .ok (.return_, 1) := by decide +kernel
theorem dX10_feed_0 : decode cX10_feed 0 = .ok (.aload_n 0, 1) := by decide +kernel
theorem dX10_feed_1 : decode cX10_feed 1 = .ok (.getfield 10, 3) := by decide +kernel
theorem dX10_feed_4 : decode cX10_feed 4 = .ok (.getfield 65, 3) := by decide +kernel
theorem dX10_feed_7 : decode cX10_feed 7 = .ok (.astore 6, 2) := by decide +kernel
theorem dX10_feed_9 : decode cX10_feed 9 = .ok (.aload 6, 2) := by decide +kernel
theorem dX10_feed_11 : decode cX10_feed 11 = .ok (.bipush 20, 2) := by decide +kernel
theorem dX10_feed_13 : decode cX10_feed 13 = .ok (.invokevirtual 69, 3) := by decide +kernel
theorem dX10_feed_16 : decode cX10_feed 16 = .ok (.ifCond .ne 5, 3) := by decide +kernel
theorem dX10_feed_19 : decode cX10_feed 19 = .ok (.iconst (-1), 1) := by decide +kernel
theorem dX10_feed_20 : decode cX10_feed 20 = .ok (.ireturn, 1) := by decide +kernel
theorem dX10_feed_21 : decode cX10_feed 21 = .ok (.aload 6, 2) := by decide +kernel
theorem dX10_feed_23 : decode cX10_feed 23 = .ok (.iload_n 1, 1) := by decide +kernel
theorem dX10_feed_24 : decode cX10_feed 24 = .ok (.invokevirtual 75, 3) := by decide +kernel
theorem dX10_feed_27 : decode cX10_feed 27 = .ok (.aload 6, 2) := by decide +kernel
theorem dX10_feed_29 : decode cX10_feed 29 = .ok (.iload_n 2, 1) := by decide +kernel
theorem dX10_feed_30 : decode cX10_feed 30 = .ok (.invokevirtual 75, 3) := by decide +kernel
theorem dX10_feed_33 : decode cX10_feed 33 = .ok (.aload 6, 2) := by decide +kernel
theorem dX10_feed_35 : decode cX10_feed 35 = .ok (.iload_n 3, 1) := by decide +kernel
theorem dX10_feed_36 : decode cX10_feed 36 = .ok (.invokevirtual 75, 3) := by decide +kernel
theorem dX10_feed_39 : decode cX10_feed 39 = .ok (.aload 6, 2) := by decide +kernel
theorem dX10_feed_41 : decode cX10_feed 41 = .ok (.iload 4, 2) := by decide +kernel
theorem dX10_feed_43 : decode cX10_feed 43 = .ok (.invokevirtual 75, 3) := by decide +kernel
theorem dX10_feed_46 : decode cX10_feed 46 = .ok (.aload 6, 2) := by decide +kernel
theorem dX10_feed_48 : decode cX10_feed 48 = .ok (.iload 5, 2) := by decide +kernel
theorem dX10_feed_50 : decode cX10_feed 50 = .ok (.invokevirtual 75, 3) := by decide +kernel
theorem dX10_feed_53 : decode cX10_feed 53 = .ok (.aload 6, 2) := by decide +kernel
theorem dX10_feed_55 : decode cX10_feed 55 = .ok (.getfield 79, 3) := by decide +kernel
theorem dX10_feed_58 : decode cX10_feed 58 = .ok (.ireturn, 1) := by decide +kernel
theorem dX10_end_0 : decode cX10_end 0 = .ok (.iload_n 1, 1) := by decide +kernel
theorem dX10_end_1 : decode cX10_end 1 = .ok (.ifCond .lt 17, 3) := by decide +kernel
theorem dX10_end_4 : decode cX10_end 4 = .ok (.iload_n 1, 1) := by decide +kernel
theorem dX10_end_5 : decode cX10_end 5 = .ok (.aload_n 0, 1) := by decide +kernel
theorem dX10_end_6 : decode cX10_end 6 = .ok (.getfield 10, 3) := by decide +kernel
theorem dX10_end_9 : decode cX10_end 9 = .ok (.getfield 65, 3) := by decide +kernel
theorem dX10_end_12 : decode cX10_end 12 = .ok (.getfield 79, 3) := by decide +kernel
theorem dX10_end_15 : decode cX10_end 15 = .ok (.if_icmp .le 5, 3) := by decide +kernel
theorem dX10_end_18 : decode cX10_end 18 = .ok (.iconst (-1), 1) := by decide +kernel
theorem dX10_end_19 : decode cX10_end 19 = .ok (.ireturn, 1) := by decide +kernel
theorem dX10_end_20 : decode cX10_end 20 = .ok (.aload_n 0, 1) := by decide +kernel
theorem dX10_end_21 : decode cX10_end 21 = .ok (.getfield 10, 3) := by decide +kernel
theorem dX10_end_24 : decode cX10_end 24 = .ok (.getfield 65, 3) := by decide +kernel
theorem dX10_end_27 : decode cX10_end 27 = .ok (.iload_n 1, 1) := by decide +kernel
theorem dX10_end_28 : decode cX10_end 28 = .ok (.putfield 79, 3) := by decide +kernel
theorem dX10_end_31 : decode cX10_end 31 = .ok (.iload_n 1, 1) := by decide +kernel
theorem dX10_end_32 : decode cX10_end 32 = .ok (.ireturn, 1) := by decide +kernel
theorem dX10_spec_0 : decode cX10_spec 0 = .ok (.aload_n 0, 1) := by decide +kernel
theorem dX10_spec_1 : decode cX10_spec 1 = .ok (.getfield 51, 3) := by decide +kernel
theorem dX10_spec_4 : decode cX10_spec 4 = .ok (.aload_n 0, 1) := by decide +kernel
theorem dX10_spec_5 : decode cX10_spec 5 = .ok (.getfield 10, 3) := by decide +kernel
theorem dX10_spec_8 : decode cX10_spec 8 = .ok (.getfield 65, 3) := by decide +kernel
theorem dX10_spec_11 : decode cX10_spec 11 = .ok (.invokevirtual 83, 3) := by decide +kernel
theorem dX10_spec_14 : decode cX10_spec 14 = .ok (.aload_n 0, 1) := by decide +kernel
theorem dX10_spec_15 : decode cX10_spec 15 = .ok (.getfield 10, 3) := by decide +kernel
theorem dX10_spec_18 : decode cX10_spec 18 = .ok (.getfield 65, 3) := by decide +kernel
theorem dX10_spec_21 : decode cX10_spec 21 = .ok (.iconst 0, 1) := by decide +kernel
theorem dX10_spec_22 : decode cX10_spec 22 = .ok (.putfield 79, 3) := by decide +kernel
theorem dX10_spec_25 : decode cX10_spec 25 = .ok (.aload_n 0, 1) := by decide +kernel
theorem dX10_spec_26 : decode cX10_spec 26 = .ok (.getfield 10, 3) := by decide +kernel
theorem dX10_spec_29 : decode cX10_spec 29 = .ok (.aload_n 0, 1) := by decide +kernel
theorem dX10_spec_30 : decode cX10_spec 30 = .ok (.getfield 51, 3) := by decide +kernel
theorem dX10_spec_33 : decode cX10_spec 33 = .ok (.getfield 87, 3) := by decide +kernel
theorem dX10_spec_36 : decode cX10_spec 36 = .ok (.putfield 90, 3) := by decide +kernel
theorem dX10_spec_39 : decode cX10_spec 39 = .ok (.aload_n 0, 1) := by decide +kernel
theorem dX10_spec_40 : decode cX10_spec 40 = .ok (.getfield 10, 3) := by decide +kernel
theorem dX10_spec_43 : decode cX10_spec 43 = .ok (.aload_n 0, 1) := by decide +kernel
theorem dX10_spec_44 : decode cX10_spec 44 = .ok (.getfield 51, 3) := by decide +kernel
theorem dX10_spec_47 : decode cX10_spec 47 = .ok (.getfield 91, 3) := by decide +kernel
theorem dX10_spec_50 : decode cX10_spec 50 = .ok (.putfield 94, 3) := by decide +kernel
theorem dX10_spec_53 : decode cX10_spec 53 = .ok (.aload_n 0, 1) := by decide +kernel
theorem dX10_spec_54 : decode cX10_spec 54 = .ok (.getfield 10, 3) := by decide +kernel
theorem dX10_spec_57 : decode cX10_spec 57 = .ok (.getfield 90, 3) := by decide +kernel
theorem dX10_spec_60 : decode cX10_spec 60 = .ok (.ifCond .ne 25, 3) := by decide +kernel
theorem dX10_spec_63 : decode cX10_spec 63 = .ok (.aload_n 0, 1) := by decide +kernel
theorem dX10_spec_64 : decode cX10_spec 64 = .ok (.aload_n 0, 1) := by decide +kernel
theorem dX10_spec_65 : decode cX10_spec 65 = .ok (.getfield 51, 3) := by decide +kernel
theorem dX10_spec_68 : decode cX10_spec 68 = .ok (.getfield 95, 3) := by decide +kernel
theorem dX10_spec_71 : decode cX10_spec 71 = .ok (.invokevirtual 98, 3) := by decide +kernel
theorem dX10_spec_74 : decode cX10_spec 74 = .ok (.ifCond .eq 11, 3) := by decide +kernel
theorem dX10_spec_77 : decode cX10_spec 77 = .ok (.aload_n 0, 1) := by decide +kernel
theorem dX10_spec_78 : decode cX10_spec 78 = .ok (.getfield 10, 3) := by decide +kernel
theorem dX10_spec_81 : decode cX10_spec 81 = .ok (.iconst 5, 1) := by decide +kernel
theorem dX10_spec_82 : decode cX10_spec 82 = .ok (.putfield 90, 3) := by decide +kernel
theorem dX10_spec_85 : decode cX10_spec 85 = .ok (.aload_n 0, 1) := by decide +kernel
theorem dX10_spec_86 : decode cX10_spec 86 = .ok (.getfield 10, 3) := by decide +kernel
theorem dX10_spec_89 : decode cX10_spec 89 = .ok (.getfield 90, 3) := by decide +kernel
theorem dX10_spec_92 : decode cX10_spec 92 = .ok (.ifCond .eq 5, 3) := by decide +kernel
theorem dX10_spec_95 : decode cX10_spec 95 = .ok (.iconst (-1), 1) := by decide +kernel
theorem dX10_spec_96 : decode cX10_spec 96 = .ok (.ireturn, 1) := by decide +kernel
theorem dX10_spec_97 : decode cX10_spec 97 = .ok (.aload_n 0, 1) := by decide +kernel
theorem dX10_spec_98 : decode cX10_spec 98 = .ok (.getfield 10, 3) := by decide +kernel
theorem dX10_spec_101 : decode cX10_spec 101 = .ok (.getfield 102, 3) := by decide +kernel
theorem dX10_spec_104 : decode cX10_spec 104 = .ok (.getfield 106, 3) := by decide +kernel
theorem dX10_spec_107 : decode cX10_spec 107 = .ok (.aload_n 0, 1) := by decide +kernel
theorem dX10_spec_108 : decode cX10_spec 108 = .ok (.getfield 51, 3) := by decide +kernel
theorem dX10_spec_111 : decode cX10_spec 111 = .ok (.getfield 95, 3) := by decide +kernel
theorem dX10_spec_114 : decode cX10_spec 114 = .ok (.invokevirtual 111, 3) := by decide +kernel
theorem dX10_spec_117 : decode cX10_spec 117 = .ok (.aload_n 0, 1) := by decide +kernel
theorem dX10_spec_118 : decode cX10_spec 118 = .ok (.getfield 10, 3) := by decide +kernel
theorem dX10_spec_121 : decode cX10_spec 121 = .ok (.getfield 102, 3) := by decide +kernel
theorem dX10_spec_124 : decode cX10_spec 124 = .ok (.invokevirtual 115, 3) := by decide +kernel
theorem dX10_spec_127 : decode cX10_spec 127 = .ok (.aload_n 0, 1) := by decide +kernel
theorem dX10_spec_128 : decode cX10_spec 128 = .ok (.getfield 23, 3) := by decide +kernel
theorem dX10_spec_131 : decode cX10_spec 131 = .ok (.invokevirtual 118, 3) := by decide +kernel
theorem dX10_spec_134 : decode cX10_spec 134 = .ok (.aload_n 0, 1) := by decide +kernel
theorem dX10_spec_135 : decode cX10_spec 135 = .ok (.invokevirtual 62, 3) := by decide +kernel
theorem dX10_spec_138 : decode cX10_spec 138 = .ok (.aload_n 0, 1) := by decide +kernel
theorem dX10_spec_139 : decode cX10_spec 139 = .ok (.getfield 30, 3) := by decide +kernel
theorem dX10_spec_142 : decode cX10_spec 142 = .ok (.getfield 121, 3) := by decide +kernel
theorem dX10_spec_145 : decode cX10_spec 145 = .ok (.ireturn, 1) := by decide +kernel
theorem dX10_fault_0 : decode cX10_fault 0 = .ok (.iload_n 1, 1) := by decide +kernel
theorem dX10_fault_1 : decode cX10_fault 1 = .ok (.lookupswitch 43 #[(0, 27), (1, 35)], 27) := by decide +kernel
theorem dX10_fault_28 : decode cX10_fault 28 = .ok (.aload_n 0, 1) := by decide +kernel
theorem dX10_fault_29 : decode cX10_fault 29 = .ok (.getfield 10, 3) := by decide +kernel
theorem dX10_fault_32 : decode cX10_fault 32 = .ok (.getfield 90, 3) := by decide +kernel
theorem dX10_fault_35 : decode cX10_fault 35 = .ok (.ireturn, 1) := by decide +kernel
theorem dX10_fault_36 : decode cX10_fault 36 = .ok (.aload_n 0, 1) := by decide +kernel
theorem dX10_fault_37 : decode cX10_fault 37 = .ok (.getfield 10, 3) := by decide +kernel
theorem dX10_fault_40 : decode cX10_fault 40 = .ok (.getfield 94, 3) := by decide +kernel
theorem dX10_fault_43 : decode cX10_fault 43 = .ok (.ireturn, 1) := by decide +kernel
theorem dX10_fault_44 : decode cX10_fault 44 = .ok (.iconst (-1), 1) := by decide +kernel
theorem dX10_fault_45 : decode cX10_fault 45 = .ok (.ireturn, 1) := by decide +kernel
theorem dX10_set_0 : decode cX10_set 0 = .ok (.iload_n 1, 1) := by decide +kernel
theorem dX10_set_1 : decode cX10_set 1 = .ok (.iload_n 2, 1) := by decide +kernel
theorem dX10_set_2 : decode cX10_set 2 = .ok (.invokestatic 124, 3) := by decide +kernel
theorem dX10_set_5 : decode cX10_set 5 = .ok (.ifCond .ne 9, 3) := by decide +kernel
theorem dX10_set_8 : decode cX10_set 8 = .ok (.aload_n 0, 1) := by decide +kernel
theorem dX10_set_9 : decode cX10_set 9 = .ok (.iconst 1, 1) := by decide +kernel
theorem dX10_set_10 : decode cX10_set 10 = .ok (.invokevirtual 128, 3) := by decide +kernel
theorem dX10_set_13 : decode cX10_set 13 = .ok (.ireturn, 1) := by decide +kernel
theorem dX10_set_14 : decode cX10_set 14 = .ok (.aload_n 0, 1) := by decide +kernel
theorem dX10_set_15 : decode cX10_set 15 = .ok (.getfield 10, 3) := by decide +kernel
theorem dX10_set_18 : decode cX10_set 18 = .ok (.getfield 102, 3) := by decide +kernel
theorem dX10_set_21 : decode cX10_set 21 = .ok (.getfield 106, 3) := by decide +kernel
theorem dX10_set_24 : decode cX10_set 24 = .ok (.astore_n 3, 1) := by decide +kernel
theorem dX10_set_25 : decode cX10_set 25 = .ok (.aload_n 3, 1) := by decide +kernel
theorem dX10_set_26 : decode cX10_set 26 = .ok (.getfield 132, 3) := by decide +kernel
theorem dX10_set_29 : decode cX10_set 29 = .ok (.iload_n 1, 1) := by decide +kernel
theorem dX10_set_30 : decode cX10_set 30 = .ok (.iaload, 1) := by decide +kernel
theorem dX10_set_31 : decode cX10_set 31 = .ok (.iload_n 2, 1) := by decide +kernel
theorem dX10_set_32 : decode cX10_set 32 = .ok (.if_icmp .ne 9, 3) := by decide +kernel
theorem dX10_set_35 : decode cX10_set 35 = .ok (.aload_n 0, 1) := by decide +kernel
theorem dX10_set_36 : decode cX10_set 36 = .ok (.iconst 2, 1) := by decide +kernel
theorem dX10_set_37 : decode cX10_set 37 = .ok (.invokevirtual 128, 3) := by decide +kernel
theorem dX10_set_40 : decode cX10_set 40 = .ok (.ireturn, 1) := by decide +kernel
theorem dX10_set_41 : decode cX10_set 41 = .ok (.aload_n 0, 1) := by decide +kernel
theorem dX10_set_42 : decode cX10_set 42 = .ok (.getfield 44, 3) := by decide +kernel
theorem dX10_set_45 : decode cX10_set 45 = .ok (.aload_n 3, 1) := by decide +kernel
theorem dX10_set_46 : decode cX10_set 46 = .ok (.invokevirtual 111, 3) := by decide +kernel
theorem dX10_set_49 : decode cX10_set 49 = .ok (.aload_n 0, 1) := by decide +kernel
theorem dX10_set_50 : decode cX10_set 50 = .ok (.getfield 44, 3) := by decide +kernel
theorem dX10_set_53 : decode cX10_set 53 = .ok (.getfield 132, 3) := by decide +kernel
theorem dX10_set_56 : decode cX10_set 56 = .ok (.iload_n 1, 1) := by decide +kernel
theorem dX10_set_57 : decode cX10_set 57 = .ok (.iload_n 2, 1) := by decide +kernel
theorem dX10_set_58 : decode cX10_set 58 = .ok (.iastore, 1) := by decide +kernel
theorem dX10_set_59 : decode cX10_set 59 = .ok (.aload_n 0, 1) := by decide +kernel
theorem dX10_set_60 : decode cX10_set 60 = .ok (.aload_n 0, 1) := by decide +kernel
theorem dX10_set_61 : decode cX10_set 61 = .ok (.getfield 44, 3) := by decide +kernel
theorem dX10_set_64 : decode cX10_set 64 = .ok (.invokevirtual 98, 3) := by decide +kernel
theorem dX10_set_67 : decode cX10_set 67 = .ok (.istore 4, 2) := by decide +kernel
theorem dX10_set_69 : decode cX10_set 69 = .ok (.iload 4, 2) := by decide +kernel
theorem dX10_set_71 : decode cX10_set 71 = .ok (.ifCond .eq 10, 3) := by decide +kernel
theorem dX10_set_74 : decode cX10_set 74 = .ok (.aload_n 0, 1) := by decide +kernel
theorem dX10_set_75 : decode cX10_set 75 = .ok (.iload 4, 2) := by decide +kernel
theorem dX10_set_77 : decode cX10_set 77 = .ok (.invokevirtual 136, 3) := by decide +kernel
theorem dX10_set_80 : decode cX10_set 80 = .ok (.ireturn, 1) := by decide +kernel

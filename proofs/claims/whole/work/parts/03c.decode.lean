theorem dX11_badBy_59 : decode cX11_badBy 59 = .ok (.ireturn, 1) := by decide +kernel
theorem dX11_comes_0 : decode cX11_comes 0 = .ok (.iload_n 1, 1) := by decide +kernel
theorem dX11_comes_1 : decode cX11_comes 1 = .ok (.aload_n 0, 1) := by decide +kernel
theorem dX11_comes_2 : decode cX11_comes 2 = .ok (.getfield 8, 3) := by decide +kernel
theorem dX11_comes_5 : decode cX11_comes 5 = .ok (.iload_n 1, 1) := by decide +kernel
theorem dX11_comes_6 : decode cX11_comes 6 = .ok (.bipush 9, 2) := by decide +kernel
theorem dX11_comes_8 : decode cX11_comes 8 = .ok (.iadd, 1) := by decide +kernel
theorem dX11_comes_9 : decode cX11_comes 9 = .ok (.iaload, 1) := by decide +kernel
theorem dX11_comes_10 : decode cX11_comes 10 = .ok (.invokestatic 138, 3) := by decide +kernel
theorem dX11_comes_13 : decode cX11_comes 13 = .ok (.istore 5, 2) := by decide +kernel
theorem dX11_comes_15 : decode cX11_comes 15 = .ok (.aload_n 0, 1) := by decide +kernel
theorem dX11_comes_16 : decode cX11_comes 16 = .ok (.getfield 8, 3) := by decide +kernel
theorem dX11_comes_19 : decode cX11_comes 19 = .ok (.iload 5, 2) := by decide +kernel
theorem dX11_comes_21 : decode cX11_comes 21 = .ok (.iload_n 2, 1) := by decide +kernel
theorem dX11_comes_22 : decode cX11_comes 22 = .ok (.iastore, 1) := by decide +kernel
theorem dX11_comes_23 : decode cX11_comes 23 = .ok (.aload_n 0, 1) := by decide +kernel
theorem dX11_comes_24 : decode cX11_comes 24 = .ok (.getfield 8, 3) := by decide +kernel
theorem dX11_comes_27 : decode cX11_comes 27 = .ok (.iload 5, 2) := by decide +kernel
theorem dX11_comes_29 : decode cX11_comes 29 = .ok (.iconst 1, 1) := by decide +kernel
theorem dX11_comes_30 : decode cX11_comes 30 = .ok (.iadd, 1) := by decide +kernel
theorem dX11_comes_31 : decode cX11_comes 31 = .ok (.iload_n 3, 1) := by decide +kernel
theorem dX11_comes_32 : decode cX11_comes 32 = .ok (.iastore, 1) := by decide +kernel
theorem dX11_comes_33 : decode cX11_comes 33 = .ok (.aload_n 0, 1) := by decide +kernel
theorem dX11_comes_34 : decode cX11_comes 34 = .ok (.getfield 8, 3) := by decide +kernel
theorem dX11_comes_37 : decode cX11_comes 37 = .ok (.iload 5, 2) := by decide +kernel
theorem dX11_comes_39 : decode cX11_comes 39 = .ok (.iconst 2, 1) := by decide +kernel
theorem dX11_comes_40 : decode cX11_comes 40 = .ok (.iadd, 1) := by decide +kernel
theorem dX11_comes_41 : decode cX11_comes 41 = .ok (.iload 4, 2) := by decide +kernel
theorem dX11_comes_43 : decode cX11_comes 43 = .ok (.iastore, 1) := by decide +kernel
theorem dX11_comes_44 : decode cX11_comes 44 = .ok (.aload_n 0, 1) := by decide +kernel
theorem dX11_comes_45 : decode cX11_comes 45 = .ok (.getfield 8, 3) := by decide +kernel
theorem dX11_comes_48 : decode cX11_comes 48 = .ok (.iload_n 1, 1) := by decide +kernel
theorem dX11_comes_49 : decode cX11_comes 49 = .ok (.bipush 9, 2) := by decide +kernel
theorem dX11_comes_51 : decode cX11_comes 51 = .ok (.iadd, 1) := by decide +kernel
theorem dX11_comes_52 : decode cX11_comes 52 = .ok (.dup2, 1) := by decide +kernel
theorem dX11_comes_53 : decode cX11_comes 53 = .ok (.iaload, 1) := by decide +kernel
theorem dX11_comes_54 : decode cX11_comes 54 = .ok (.iconst 1, 1) := by decide +kernel
theorem dX11_comes_55 : decode cX11_comes 55 = .ok (.iadd, 1) := by decide +kernel
theorem dX11_comes_56 : decode cX11_comes 56 = .ok (.iastore, 1) := by decide +kernel
theorem dX11_comes_57 : decode cX11_comes 57 = .ok (.return_, 1) := by decide +kernel
theorem dX11_bad_0 : decode cX11_bad 0 = .ok (.iload_n 1, 1) := by decide +kernel
theorem dX11_bad_1 : decode cX11_bad 1 = .ok (.iload_n 2, 1) := by decide +kernel
theorem dX11_bad_2 : decode cX11_bad 2 = .ok (.invokestatic 212, 3) := by decide +kernel
theorem dX11_bad_5 : decode cX11_bad 5 = .ok (.ifCond .eq 12, 3) := by decide +kernel
theorem dX11_bad_8 : decode cX11_bad 8 = .ok (.iload_n 3, 1) := by decide +kernel
theorem dX11_bad_9 : decode cX11_bad 9 = .ok (.iconst 0, 1) := by decide +kernel
theorem dX11_bad_10 : decode cX11_bad 10 = .ok (.iconst 1, 1) := by decide +kernel
theorem dX11_bad_11 : decode cX11_bad 11 = .ok (.invokestatic 52, 3) := by decide +kernel
theorem dX11_bad_14 : decode cX11_bad 14 = .ok (.ifCond .ne 10, 3) := by decide +kernel
theorem dX11_bad_17 : decode cX11_bad 17 = .ok (.aload_n 0, 1) := by decide +kernel
theorem dX11_bad_18 : decode cX11_bad 18 = .ok (.iconst 1, 1) := by decide +kernel
theorem dX11_bad_19 : decode cX11_bad 19 = .ok (.iconst 0, 1) := by decide +kernel
theorem dX11_bad_20 : decode cX11_bad 20 = .ok (.invokevirtual 200, 3) := by decide +kernel
theorem dX11_bad_23 : decode cX11_bad 23 = .ok (.ireturn, 1) := by decide +kernel
theorem dX11_bad_24 : decode cX11_bad 24 = .ok (.aload_n 0, 1) := by decide +kernel
theorem dX11_bad_25 : decode cX11_bad 25 = .ok (.iconst 0, 1) := by decide +kernel
theorem dX11_bad_26 : decode cX11_bad 26 = .ok (.iload_n 1, 1) := by decide +kernel
theorem dX11_bad_27 : decode cX11_bad 27 = .ok (.iload_n 2, 1) := by decide +kernel
theorem dX11_bad_28 : decode cX11_bad 28 = .ok (.invokevirtual 215, 3) := by decide +kernel
theorem dX11_bad_31 : decode cX11_bad 31 = .ok (.iconst (-1), 1) := by decide +kernel
theorem dX11_bad_32 : decode cX11_bad 32 = .ok (.if_icmp .eq 10, 3) := by decide +kernel
theorem dX11_bad_35 : decode cX11_bad 35 = .ok (.aload_n 0, 1) := by decide +kernel
theorem dX11_bad_36 : decode cX11_bad 36 = .ok (.iconst 2, 1) := by decide +kernel
theorem dX11_bad_37 : decode cX11_bad 37 = .ok (.iconst 0, 1) := by decide +kernel
theorem dX11_bad_38 : decode cX11_bad 38 = .ok (.invokevirtual 200, 3) := by decide +kernel
theorem dX11_bad_41 : decode cX11_bad 41 = .ok (.ireturn, 1) := by decide +kernel
theorem dX11_bad_42 : decode cX11_bad 42 = .ok (.aload_n 0, 1) := by decide +kernel
theorem dX11_bad_43 : decode cX11_bad 43 = .ok (.getfield 8, 3) := by decide +kernel
theorem dX11_bad_46 : decode cX11_bad 46 = .ok (.bipush 9, 2) := by decide +kernel
theorem dX11_bad_48 : decode cX11_bad 48 = .ok (.iaload, 1) := by decide +kernel
theorem dX11_bad_49 : decode cX11_bad 49 = .ok (.bipush 12, 2) := by decide +kernel
theorem dX11_bad_51 : decode cX11_bad 51 = .ok (.if_icmp .ne 10, 3) := by decide +kernel
theorem dX11_bad_54 : decode cX11_bad 54 = .ok (.aload_n 0, 1) := by decide +kernel
theorem dX11_bad_55 : decode cX11_bad 55 = .ok (.iconst 3, 1) := by decide +kernel
theorem dX11_bad_56 : decode cX11_bad 56 = .ok (.iconst 0, 1) := by decide +kernel
theorem dX11_bad_57 : decode cX11_bad 57 = .ok (.invokevirtual 200, 3) := by decide +kernel
theorem dX11_bad_60 : decode cX11_bad 60 = .ok (.ireturn, 1) := by decide +kernel
theorem dX11_bad_61 : decode cX11_bad 61 = .ok (.aload_n 0, 1) := by decide +kernel
theorem dX11_bad_62 : decode cX11_bad 62 = .ok (.iconst 0, 1) := by decide +kernel
theorem dX11_bad_63 : decode cX11_bad 63 = .ok (.invokevirtual 135, 3) := by decide +kernel
theorem dX11_bad_66 : decode cX11_bad 66 = .ok (.istore 4, 2) := by decide +kernel
theorem dX11_bad_68 : decode cX11_bad 68 = .ok (.iload_n 1, 1) := by decide +kernel
theorem dX11_bad_69 : decode cX11_bad 69 = .ok (.aload_n 0, 1) := by decide +kernel
theorem dX11_bad_70 : decode cX11_bad 70 = .ok (.iconst 0, 1) := by decide +kernel
theorem dX11_bad_71 : decode cX11_bad 71 = .ok (.iload 4, 2) := by decide +kernel
theorem dX11_bad_73 : decode cX11_bad 73 = .ok (.invokevirtual 48, 3) := by decide +kernel
theorem dX11_bad_76 : decode cX11_bad 76 = .ok (.if_icmp .ge 14, 3) := by decide +kernel
theorem dX11_bad_79 : decode cX11_bad 79 = .ok (.iload_n 2, 1) := by decide +kernel
theorem dX11_bad_80 : decode cX11_bad 80 = .ok (.aload_n 0, 1) := by decide +kernel
theorem dX11_bad_81 : decode cX11_bad 81 = .ok (.iconst 0, 1) := by decide +kernel
theorem dX11_bad_82 : decode cX11_bad 82 = .ok (.iload 4, 2) := by decide +kernel
theorem dX11_bad_84 : decode cX11_bad 84 = .ok (.invokevirtual 56, 3) := by decide +kernel
theorem dX11_bad_87 : decode cX11_bad 87 = .ok (.if_icmp .lt 11, 3) := by decide +kernel
theorem dX11_bad_90 : decode cX11_bad 90 = .ok (.aload_n 0, 1) := by decide +kernel
theorem dX11_bad_91 : decode cX11_bad 91 = .ok (.iconst 4, 1) := by decide +kernel
theorem dX11_bad_92 : decode cX11_bad 92 = .ok (.bipush 6, 2) := by decide +kernel
theorem dX11_bad_94 : decode cX11_bad 94 = .ok (.invokevirtual 200, 3) := by decide +kernel
theorem dX11_bad_97 : decode cX11_bad 97 = .ok (.ireturn, 1) := by decide +kernel
theorem dX11_bad_98 : decode cX11_bad 98 = .ok (.aload_n 0, 1) := by decide +kernel
theorem dX11_bad_99 : decode cX11_bad 99 = .ok (.invokevirtual 206, 3) := by decide +kernel
theorem dX11_bad_102 : decode cX11_bad 102 = .ok (.aload_n 0, 1) := by decide +kernel
theorem dX11_bad_103 : decode cX11_bad 103 = .ok (.iconst 0, 1) := by decide +kernel
theorem dX11_bad_104 : decode cX11_bad 104 = .ok (.iload_n 1, 1) := by decide +kernel
theorem dX11_bad_105 : decode cX11_bad 105 = .ok (.iload_n 2, 1) := by decide +kernel
theorem dX11_bad_106 : decode cX11_bad 106 = .ok (.iload_n 3, 1) := by decide +kernel
theorem dX11_bad_107 : decode cX11_bad 107 = .ok (.invokevirtual 218, 3) := by decide +kernel
theorem dX11_bad_110 : decode cX11_bad 110 = .ok (.aload_n 0, 1) := by decide +kernel
theorem dX11_bad_111 : decode cX11_bad 111 = .ok (.iconst 0, 1) := by decide +kernel
theorem dX11_bad_112 : decode cX11_bad 112 = .ok (.iconst 0, 1) := by decide +kernel
theorem dX11_bad_113 : decode cX11_bad 113 = .ok (.invokevirtual 200, 3) := by decide +kernel
theorem dX11_bad_116 : decode cX11_bad 116 = .ok (.ireturn, 1) := by decide +kernel
theorem dX11_heal_0 : decode cX11_heal 0 = .ok (.iload_n 1, 1) := by decide +kernel
theorem dX11_heal_1 : decode cX11_heal 1 = .ok (.iload_n 2, 1) := by decide +kernel
theorem dX11_heal_2 : decode cX11_heal 2 = .ok (.invokestatic 212, 3) := by decide +kernel
theorem dX11_heal_5 : decode cX11_heal 5 = .ok (.ifCond .ne 10, 3) := by decide +kernel
theorem dX11_heal_8 : decode cX11_heal 8 = .ok (.aload_n 0, 1) := by decide +kernel
theorem dX11_heal_9 : decode cX11_heal 9 = .ok (.iconst 1, 1) := by decide +kernel
theorem dX11_heal_10 : decode cX11_heal 10 = .ok (.iconst 0, 1) := by decide +kernel
theorem dX11_heal_11 : decode cX11_heal 11 = .ok (.invokevirtual 200, 3) := by decide +kernel
theorem dX11_heal_14 : decode cX11_heal 14 = .ok (.ireturn, 1) := by decide +kernel
theorem dX11_heal_15 : decode cX11_heal 15 = .ok (.aload_n 0, 1) := by decide +kernel
theorem dX11_heal_16 : decode cX11_heal 16 = .ok (.iconst 0, 1) := by decide +kernel
theorem dX11_heal_17 : decode cX11_heal 17 = .ok (.iload_n 1, 1) := by decide +kernel
theorem dX11_heal_18 : decode cX11_heal 18 = .ok (.iload_n 2, 1) := by decide +kernel
theorem dX11_heal_19 : decode cX11_heal 19 = .ok (.invokevirtual 215, 3) := by decide +kernel
theorem dX11_heal_22 : decode cX11_heal 22 = .ok (.istore_n 3, 1) := by decide +kernel
theorem dX11_heal_23 : decode cX11_heal 23 = .ok (.iload_n 3, 1) := by decide +kernel
theorem dX11_heal_24 : decode cX11_heal 24 = .ok (.iconst (-1), 1) := by decide +kernel
theorem dX11_heal_25 : decode cX11_heal 25 = .ok (.if_icmp .ne 10, 3) := by decide +kernel
theorem dX11_heal_28 : decode cX11_heal 28 = .ok (.aload_n 0, 1) := by decide +kernel
theorem dX11_heal_29 : decode cX11_heal 29 = .ok (.iconst 2, 1) := by decide +kernel
theorem dX11_heal_30 : decode cX11_heal 30 = .ok (.iconst 0, 1) := by decide +kernel
theorem dX11_heal_31 : decode cX11_heal 31 = .ok (.invokevirtual 200, 3) := by decide +kernel
theorem dX11_heal_34 : decode cX11_heal 34 = .ok (.ireturn, 1) := by decide +kernel
theorem dX11_heal_35 : decode cX11_heal 35 = .ok (.aload_n 0, 1) := by decide +kernel
theorem dX11_heal_36 : decode cX11_heal 36 = .ok (.invokevirtual 206, 3) := by decide +kernel
theorem dX11_heal_39 : decode cX11_heal 39 = .ok (.aload_n 0, 1) := by decide +kernel
theorem dX11_heal_40 : decode cX11_heal 40 = .ok (.getfield 8, 3) := by decide +kernel
theorem dX11_heal_43 : decode cX11_heal 43 = .ok (.bipush 9, 2) := by decide +kernel
theorem dX11_heal_45 : decode cX11_heal 45 = .ok (.dup2, 1) := by decide +kernel
theorem dX11_heal_46 : decode cX11_heal 46 = .ok (.iaload, 1) := by decide +kernel
theorem dX11_heal_47 : decode cX11_heal 47 = .ok (.iconst 1, 1) := by decide +kernel
theorem dX11_heal_48 : decode cX11_heal 48 = .ok (.isub, 1) := by decide +kernel
theorem dX11_heal_49 : decode cX11_heal 49 = .ok (.iastore, 1) := by decide +kernel
theorem dX11_heal_50 : decode cX11_heal 50 = .ok (.aload_n 0, 1) := by decide +kernel
theorem dX11_heal_51 : decode cX11_heal 51 = .ok (.iload_n 3, 1) := by decide +kernel
theorem dX11_heal_52 : decode cX11_heal 52 = .ok (.iconst 1, 1) := by decide +kernel
theorem dX11_heal_53 : decode cX11_heal 53 = .ok (.iadd, 1) := by decide +kernel
theorem dX11_heal_54 : decode cX11_heal 54 = .ok (.invokestatic 144, 3) := by decide +kernel
theorem dX11_heal_57 : decode cX11_heal 57 = .ok (.iload_n 3, 1) := by decide +kernel
theorem dX11_heal_58 : decode cX11_heal 58 = .ok (.invokestatic 144, 3) := by decide +kernel
theorem dX11_heal_61 : decode cX11_heal 61 = .ok (.iconst 3, 1) := by decide +kernel
theorem dX11_heal_62 : decode cX11_heal 62 = .ok (.aload_n 0, 1) := by decide +kernel
theorem dX11_heal_63 : decode cX11_heal 63 = .ok (.getfield 8, 3) := by decide +kernel
theorem dX11_heal_66 : decode cX11_heal 66 = .ok (.bipush 9, 2) := by decide +kernel
theorem dX11_heal_68 : decode cX11_heal 68 = .ok (.iaload, 1) := by decide +kernel
theorem dX11_heal_69 : decode cX11_heal 69 = .ok (.iload_n 3, 1) := by decide +kernel
theorem dX11_heal_70 : decode cX11_heal 70 = .ok (.isub, 1) := by decide +kernel
theorem dX11_heal_71 : decode cX11_heal 71 = .ok (.imul, 1) := by decide +kernel
theorem dX11_heal_72 : decode cX11_heal 72 = .ok (.invokevirtual 194, 3) := by decide +kernel
theorem dX11_heal_75 : decode cX11_heal 75 = .ok (.aload_n 0, 1) := by decide +kernel
theorem dX11_heal_76 : decode cX11_heal 76 = .ok (.iconst 0, 1) := by decide +kernel
theorem dX11_heal_77 : decode cX11_heal 77 = .ok (.iconst 0, 1) := by decide +kernel
theorem dX11_heal_78 : decode cX11_heal 78 = .ok (.invokevirtual 200, 3) := by decide +kernel
theorem dX11_heal_81 : decode cX11_heal 81 = .ok (.ireturn, 1) := by decide +kernel
theorem dX11_write_0 : decode cX11_write 0 = .ok (.iload_n 1, 1) := by decide +kernel
theorem dX11_write_1 : decode cX11_write 1 = .ok (.iconst 0, 1) := by decide +kernel
theorem dX11_write_2 : decode cX11_write 2 = .ok (.aload_n 0, 1) := by decide +kernel
theorem dX11_write_3 : decode cX11_write 3 = .ok (.getfield 8, 3) := by decide +kernel
theorem dX11_write_6 : decode cX11_write 6 = .ok (.iconst 0, 1) := by decide +kernel
theorem dX11_write_7 : decode cX11_write 7 = .ok (.iaload, 1) := by decide +kernel
theorem dX11_write_8 : decode cX11_write 8 = .ok (.iconst 1, 1) := by decide +kernel
theorem dX11_write_9 : decode cX11_write 9 = .ok (.isub, 1) := by decide +kernel
theorem dX11_write_10 : decode cX11_write 10 = .ok (.invokestatic 52, 3) := by decide +kernel
theorem dX11_write_13 : decode cX11_write 13 = .ok (.ifCond .ne 10, 3) := by decide +kernel
theorem dX11_write_16 : decode cX11_write 16 = .ok (.aload_n 0, 1) := by decide +kernel
theorem dX11_write_17 : decode cX11_write 17 = .ok (.iconst 1, 1) := by decide +kernel
theorem dX11_write_18 : decode cX11_write 18 = .ok (.iconst 0, 1) := by decide +kernel
theorem dX11_write_19 : decode cX11_write 19 = .ok (.invokevirtual 200, 3) := by decide +kernel
theorem dX11_write_22 : decode cX11_write 22 = .ok (.ireturn, 1) := by decide +kernel
theorem dX11_write_23 : decode cX11_write 23 = .ok (.aload_n 0, 1) := by decide +kernel
theorem dX11_write_24 : decode cX11_write 24 = .ok (.invokevirtual 206, 3) := by decide +kernel
theorem dX11_write_27 : decode cX11_write 27 = .ok (.aload_n 0, 1) := by decide +kernel
theorem dX11_write_28 : decode cX11_write 28 = .ok (.invokevirtual 188, 3) := by decide +kernel
theorem dX11_write_31 : decode cX11_write 31 = .ok (.iconst 0, 1) := by decide +kernel
theorem dX11_write_32 : decode cX11_write 32 = .ok (.istore_n 3, 1) := by decide +kernel
theorem dX11_write_33 : decode cX11_write 33 = .ok (.iload_n 3, 1) := by decide +kernel
theorem dX11_write_34 : decode cX11_write 34 = .ok (.aload_n 0, 1) := by decide +kernel
theorem dX11_write_35 : decode cX11_write 35 = .ok (.getfield 8, 3) := by decide +kernel
theorem dX11_write_38 : decode cX11_write 38 = .ok (.iconst 1, 1) := by decide +kernel
theorem dX11_write_39 : decode cX11_write 39 = .ok (.iaload, 1) := by decide +kernel
theorem dX11_write_40 : decode cX11_write 40 = .ok (.if_icmp .ge 20, 3) := by decide +kernel
theorem dX11_write_43 : decode cX11_write 43 = .ok (.aload_n 0, 1) := by decide +kernel
theorem dX11_write_44 : decode cX11_write 44 = .ok (.iload_n 1, 1) := by decide +kernel
theorem dX11_write_45 : decode cX11_write 45 = .ok (.iload_n 3, 1) := by decide +kernel
theorem dX11_write_46 : decode cX11_write 46 = .ok (.iload_n 2, 1) := by decide +kernel
theorem dX11_write_47 : decode cX11_write 47 = .ok (.iload_n 3, 1) := by decide +kernel
theorem dX11_write_48 : decode cX11_write 48 = .ok (.ishr, 1) := by decide +kernel
theorem dX11_write_49 : decode cX11_write 49 = .ok (.iconst 1, 1) := by decide +kernel
theorem dX11_write_50 : decode cX11_write 50 = .ok (.iand, 1) := by decide +kernel
theorem dX11_write_51 : decode cX11_write 51 = .ok (.invokevirtual 222, 3) := by decide +kernel
theorem dX11_write_54 : decode cX11_write 54 = .ok (.iinc 3 1, 3) := by decide +kernel
theorem dX11_write_57 : decode cX11_write 57 = .ok (.goto (-24), 3) := by decide +kernel
theorem dX11_write_60 : decode cX11_write 60 = .ok (.aload_n 0, 1) := by decide +kernel
theorem dX11_write_61 : decode cX11_write 61 = .ok (.iconst 0, 1) := by decide +kernel
theorem dX11_write_62 : decode cX11_write 62 = .ok (.iconst 0, 1) := by decide +kernel
theorem dX11_write_63 : decode cX11_write 63 = .ok (.invokevirtual 200, 3) := by decide +kernel
theorem dX11_write_66 : decode cX11_write 66 = .ok (.ireturn, 1) := by decide +kernel
theorem dX11_why_0 : decode cX11_why 0 = .ok (.iload_n 1, 1) := by decide +kernel
theorem dX11_why_1 : decode cX11_why 1 = .ok (.iconst 0, 1) := by decide +kernel
theorem dX11_why_2 : decode cX11_why 2 = .ok (.iconst 2, 1) := by decide +kernel
theorem dX11_why_3 : decode cX11_why 3 = .ok (.invokestatic 52, 3) := by decide +kernel
theorem dX11_why_6 : decode cX11_why 6 = .ok (.ifCond .eq 16, 3) := by decide +kernel
theorem dX11_why_9 : decode cX11_why 9 = .ok (.aload_n 0, 1) := by decide +kernel
theorem dX11_why_10 : decode cX11_why 10 = .ok (.getfield 8, 3) := by decide +kernel
theorem dX11_why_13 : decode cX11_why 13 = .ok (.sipush 4208, 3) := by decide +kernel
theorem dX11_why_16 : decode cX11_why 16 = .ok (.iload_n 1, 1) := by decide +kernel
theorem dX11_why_17 : decode cX11_why 17 = .ok (.iadd, 1) := by decide +kernel
theorem dX11_why_18 : decode cX11_why 18 = .ok (.iaload, 1) := by decide +kernel
theorem dX11_why_19 : decode cX11_why 19 = .ok (.goto 4, 3) := by decide +kernel
theorem dX11_why_22 : decode cX11_why 22 = .ok (.iconst (-1), 1) := by decide +kernel
theorem dX11_why_23 : decode cX11_why 23 = .ok (.ireturn, 1) := by decide +kernel
theorem dX11_undo_0 : decode cX11_undo 0 = .ok (.aload_n 0, 1) := by decide +kernel
theorem dX11_undo_1 : decode cX11_undo 1 = .ok (.getfield 191, 3) := by decide +kernel
theorem dX11_undo_4 : decode cX11_undo 4 = .ok (.ifCond .ne 5, 3) := by decide +kernel
theorem dX11_undo_7 : decode cX11_undo 7 = .ok (.iconst (-1), 1) := by decide +kernel
theorem dX11_undo_8 : decode cX11_undo 8 = .ok (.ireturn, 1) := by decide +kernel
theorem dX11_undo_9 : decode cX11_undo 9 = .ok (.aload_n 0, 1) := by decide +kernel
theorem dX11_undo_10 : decode cX11_undo 10 = .ok (.dup, 1) := by decide +kernel
theorem dX11_undo_11 : decode cX11_undo 11 = .ok (.getfield 191, 3) := by decide +kernel
theorem dX11_undo_14 : decode cX11_undo 14 = .ok (.iconst 1, 1) := by decide +kernel
theorem dX11_undo_15 : decode cX11_undo 15 = .ok (.isub, 1) := by decide +kernel
theorem dX11_undo_16 : decode cX11_undo 16 = .ok (.putfield 191, 3) := by decide +kernel
theorem dX11_undo_19 : decode cX11_undo 19 = .ok (.aload_n 0, 1) := by decide +kernel
theorem dX11_undo_20 : decode cX11_undo 20 = .ok (.sipush 4257, 3) := by decide +kernel
theorem dX11_undo_23 : decode cX11_undo 23 = .ok (.sipush 4208, 3) := by decide +kernel
theorem dX11_undo_26 : decode cX11_undo 26 = .ok (.aload_n 0, 1) := by decide +kernel
theorem dX11_undo_27 : decode cX11_undo 27 = .ok (.getfield 191, 3) := by decide +kernel
theorem dX11_undo_30 : decode cX11_undo 30 = .ok (.imul, 1) := by decide +kernel
theorem dX11_undo_31 : decode cX11_undo 31 = .ok (.iadd, 1) := by decide +kernel
theorem dX11_undo_32 : decode cX11_undo 32 = .ok (.iconst 0, 1) := by decide +kernel
theorem dX11_undo_33 : decode cX11_undo 33 = .ok (.sipush 4208, 3) := by decide +kernel
theorem dX11_undo_36 : decode cX11_undo 36 = .ok (.invokevirtual 194, 3) := by decide +kernel
theorem dX11_undo_39 : decode cX11_undo 39 = .ok (.aload_n 0, 1) := by decide +kernel
theorem dX11_undo_40 : decode cX11_undo 40 = .ok (.getfield 191, 3) := by decide +kernel
theorem dX11_undo_43 : decode cX11_undo 43 = .ok (.ireturn, 1) := by decide +kernel
theorem dX11_count_0 : decode cX11_count 0 = .ok (.aload_n 0, 1) := by decide +kernel
theorem dX11_count_1 : decode cX11_count 1 = .ok (.invokevirtual 188, 3) := by decide +kernel
theorem dX11_count_4 : decode cX11_count 4 = .ok (.iload_n 1, 1) := by decide +kernel
theorem dX11_count_5 : decode cX11_count 5 = .ok (.iconst 0, 1) := by decide +kernel
theorem dX11_count_6 : decode cX11_count 6 = .ok (.bipush 9, 2) := by decide +kernel
theorem dX11_count_8 : decode cX11_count 8 = .ok (.invokestatic 52, 3) := by decide +kernel
theorem dX11_count_11 : decode cX11_count 11 = .ok (.ifCond .eq 10, 3) := by decide +kernel
theorem dX11_count_14 : decode cX11_count 14 = .ok (.aload_n 0, 1) := by decide +kernel
theorem dX11_count_15 : decode cX11_count 15 = .ok (.getfield 8, 3) := by decide +kernel
theorem dX11_count_18 : decode cX11_count 18 = .ok (.iload_n 1, 1) := by decide +kernel
theorem dX11_count_19 : decode cX11_count 19 = .ok (.iaload, 1) := by decide +kernel
theorem dX11_count_20 : decode cX11_count 20 = .ok (.ireturn, 1) := by decide +kernel
theorem dX11_count_21 : decode cX11_count 21 = .ok (.iload_n 1, 1) := by decide +kernel
theorem dX11_count_22 : decode cX11_count 22 = .ok (.tableswitch 96 10 17 #[46, 51, 64, 69, 74, 80, 85, 90], 46) := by decide +kernel
theorem dX11_count_68 : decode cX11_count 68 = .ok (.aload_n 0, 1) := by decide +kernel
theorem dX11_count_69 : decode cX11_count 69 = .ok (.getfield 167, 3) := by decide +kernel
theorem dX11_count_72 : decode cX11_count 72 = .ok (.ireturn, 1) := by decide +kernel
theorem dX11_count_73 : decode cX11_count 73 = .ok (.aload_n 0, 1) := by decide +kernel
theorem dX11_count_74 : decode cX11_count 74 = .ok (.getfield 147, 3) := by decide +kernel
theorem dX11_count_77 : decode cX11_count 77 = .ok (.ifCond .eq 7, 3) := by decide +kernel
theorem dX11_count_80 : decode cX11_count 80 = .ok (.iconst 1, 1) := by decide +kernel
theorem dX11_count_81 : decode cX11_count 81 = .ok (.goto 4, 3) := by decide +kernel
theorem dX11_count_84 : decode cX11_count 84 = .ok (.iconst 0, 1) := by decide +kernel
theorem dX11_count_85 : decode cX11_count 85 = .ok (.ireturn, 1) := by decide +kernel
theorem dX11_count_86 : decode cX11_count 86 = .ok (.aload_n 0, 1) := by decide +kernel
theorem dX11_count_87 : decode cX11_count 87 = .ok (.getfield 151, 3) := by decide +kernel
theorem dX11_count_90 : decode cX11_count 90 = .ok (.ireturn, 1) := by decide +kernel
theorem dX11_count_91 : decode cX11_count 91 = .ok (.aload_n 0, 1) := by decide +kernel
theorem dX11_count_92 : decode cX11_count 92 = .ok (.getfield 154, 3) := by decide +kernel
theorem dX11_count_95 : decode cX11_count 95 = .ok (.ireturn, 1) := by decide +kernel
theorem dX11_count_96 : decode cX11_count 96 = .ok (.aload_n 0, 1) := by decide +kernel
theorem dX11_count_97 : decode cX11_count 97 = .ok (.iconst 0, 1) := by decide +kernel
theorem dX11_count_98 : decode cX11_count 98 = .ok (.invokevirtual 225, 3) := by decide +kernel
theorem dX11_count_101 : decode cX11_count 101 = .ok (.ireturn, 1) := by decide +kernel
theorem dX11_count_102 : decode cX11_count 102 = .ok (.aload_n 0, 1) := by decide +kernel
theorem dX11_count_103 : decode cX11_count 103 = .ok (.getfield 191, 3) := by decide +kernel
theorem dX11_count_106 : decode cX11_count 106 = .ok (.ireturn, 1) := by decide +kernel
theorem dX11_count_107 : decode cX11_count 107 = .ok (.aload_n 0, 1) := by decide +kernel
theorem dX11_count_108 : decode cX11_count 108 = .ok (.getfield 228, 3) := by decide +kernel
theorem dX11_count_111 : decode cX11_count 111 = .ok (.ireturn, 1) := by decide +kernel
theorem dX11_count_112 : decode cX11_count 112 = .ok (.aload_n 0, 1) := by decide +kernel
theorem dX11_count_113 : decode cX11_count 113 = .ok (.iconst 1, 1) := by decide +kernel
theorem dX11_count_114 : decode cX11_count 114 = .ok (.invokevirtual 225, 3) := by decide +kernel
theorem dX11_count_117 : decode cX11_count 117 = .ok (.ireturn, 1) := by decide +kernel
theorem dX11_count_118 : decode cX11_count 118 = .ok (.iconst (-1), 1) := by decide +kernel
theorem dX11_count_119 : decode cX11_count 119 = .ok (.ireturn, 1) := by decide +kernel
theorem dX11_shape_0 : decode cX11_shape 0 = .ok (.aload_n 0, 1) := by decide +kernel
theorem dX11_shape_1 : decode cX11_shape 1 = .ok (.iconst 0, 1) := by decide +kernel
theorem dX11_shape_2 : decode cX11_shape 2 = .ok (.iload_n 1, 1) := by decide +kernel
theorem dX11_shape_3 : decode cX11_shape 3 = .ok (.invokevirtual 125, 3) := by decide +kernel
theorem dX11_shape_6 : decode cX11_shape 6 = .ok (.ifCond .ne 5, 3) := by decide +kernel
theorem dX11_shape_9 : decode cX11_shape 9 = .ok (.iconst (-1), 1) := by decide +kernel
theorem dX11_shape_10 : decode cX11_shape 10 = .ok (.ireturn, 1) := by decide +kernel
theorem dX11_shape_11 : decode cX11_shape 11 = .ok (.aload_n 0, 1) := by decide +kernel
theorem dX11_shape_12 : decode cX11_shape 12 = .ok (.iconst 0, 1) := by decide +kernel
theorem dX11_shape_13 : decode cX11_shape 13 = .ok (.iload_n 1, 1) := by decide +kernel
theorem dX11_shape_14 : decode cX11_shape 14 = .ok (.invokevirtual 91, 3) := by decide +kernel
theorem dX11_shape_17 : decode cX11_shape 17 = .ok (.istore_n 3, 1) := by decide +kernel
theorem dX11_shape_18 : decode cX11_shape 18 = .ok (.iload_n 2, 1) := by decide +kernel
theorem dX11_shape_19 : decode cX11_shape 19 = .ok (.bipush 20, 2) := by decide +kernel
theorem dX11_shape_21 : decode cX11_shape 21 = .ok (.isub, 1) := by decide +kernel
theorem dX11_shape_22 : decode cX11_shape 22 = .ok (.iconst 0, 1) := by decide +kernel
theorem dX11_shape_23 : decode cX11_shape 23 = .ok (.iload_n 3, 1) := by decide +kernel
theorem dX11_shape_24 : decode cX11_shape 24 = .ok (.iconst 1, 1) := by decide +kernel
theorem dX11_shape_25 : decode cX11_shape 25 = .ok (.isub, 1) := by decide +kernel
theorem dX11_shape_26 : decode cX11_shape 26 = .ok (.invokestatic 52, 3) := by decide +kernel
theorem dX11_shape_29 : decode cX11_shape 29 = .ok (.ifCond .eq 19, 3) := by decide +kernel
theorem dX11_shape_32 : decode cX11_shape 32 = .ok (.aload_n 0, 1) := by decide +kernel
theorem dX11_shape_33 : decode cX11_shape 33 = .ok (.iconst 0, 1) := by decide +kernel
theorem dX11_shape_34 : decode cX11_shape 34 = .ok (.iload_n 1, 1) := by decide +kernel
theorem dX11_shape_35 : decode cX11_shape 35 = .ok (.invokevirtual 94, 3) := by decide +kernel
theorem dX11_shape_38 : decode cX11_shape 38 = .ok (.aload_n 0, 1) := by decide +kernel
theorem dX11_shape_39 : decode cX11_shape 39 = .ok (.getfield 25, 3) := by decide +kernel
theorem dX11_shape_42 : decode cX11_shape 42 = .ok (.iload_n 2, 1) := by decide +kernel
theorem dX11_shape_43 : decode cX11_shape 43 = .ok (.bipush 20, 2) := by decide +kernel
theorem dX11_shape_45 : decode cX11_shape 45 = .ok (.isub, 1) := by decide +kernel
theorem dX11_shape_46 : decode cX11_shape 46 = .ok (.iaload, 1) := by decide +kernel
theorem dX11_shape_47 : decode cX11_shape 47 = .ok (.ireturn, 1) := by decide +kernel
theorem dX11_shape_48 : decode cX11_shape 48 = .ok (.iload_n 2, 1) := by decide +kernel
theorem dX11_shape_49 : decode cX11_shape 49 = .ok (.tableswitch 169 0 12 #[67, 74, 81, 88, 95, 109, 123, 130, 132, 140, 148, 155, 162], 67) := by decide +kernel
theorem dX11_shape_116 : decode cX11_shape 116 = .ok (.aload_n 0, 1) := by decide +kernel
theorem dX11_shape_117 : decode cX11_shape 117 = .ok (.iconst 0, 1) := by decide +kernel
theorem dX11_shape_118 : decode cX11_shape 118 = .ok (.iload_n 1, 1) := by decide +kernel
theorem dX11_shape_119 : decode cX11_shape 119 = .ok (.invokevirtual 48, 3) := by decide +kernel
theorem dX11_shape_122 : decode cX11_shape 122 = .ok (.ireturn, 1) := by decide +kernel
theorem dX11_shape_123 : decode cX11_shape 123 = .ok (.aload_n 0, 1) := by decide +kernel
theorem dX11_shape_124 : decode cX11_shape 124 = .ok (.iconst 0, 1) := by decide +kernel
theorem dX11_shape_125 : decode cX11_shape 125 = .ok (.iload_n 1, 1) := by decide +kernel
theorem dX11_shape_126 : decode cX11_shape 126 = .ok (.invokevirtual 56, 3) := by decide +kernel
theorem dX11_shape_129 : decode cX11_shape 129 = .ok (.ireturn, 1) := by decide +kernel
theorem dX11_shape_130 : decode cX11_shape 130 = .ok (.aload_n 0, 1) := by decide +kernel
theorem dX11_shape_131 : decode cX11_shape 131 = .ok (.iconst 0, 1) := by decide +kernel
theorem dX11_shape_132 : decode cX11_shape 132 = .ok (.iload_n 1, 1) := by decide +kernel
theorem dX11_shape_133 : decode cX11_shape 133 = .ok (.invokevirtual 116, 3) := by decide +kernel
theorem dX11_shape_136 : decode cX11_shape 136 = .ok (.ireturn, 1) := by decide +kernel
theorem dX11_shape_137 : decode cX11_shape 137 = .ok (.aload_n 0, 1) := by decide +kernel
theorem dX11_shape_138 : decode cX11_shape 138 = .ok (.iconst 0, 1) := by decide +kernel
theorem dX11_shape_139 : decode cX11_shape 139 = .ok (.iload_n 1, 1) := by decide +kernel
theorem dX11_shape_140 : decode cX11_shape 140 = .ok (.invokevirtual 119, 3) := by decide +kernel
theorem dX11_shape_143 : decode cX11_shape 143 = .ok (.ireturn, 1) := by decide +kernel
theorem dX11_shape_144 : decode cX11_shape 144 = .ok (.aload_n 0, 1) := by decide +kernel
theorem dX11_shape_145 : decode cX11_shape 145 = .ok (.iconst 0, 1) := by decide +kernel
theorem dX11_shape_146 : decode cX11_shape 146 = .ok (.iload_n 1, 1) := by decide +kernel
theorem dX11_shape_147 : decode cX11_shape 147 = .ok (.invokevirtual 116, 3) := by decide +kernel
theorem dX11_shape_150 : decode cX11_shape 150 = .ok (.aload_n 0, 1) := by decide +kernel
theorem dX11_shape_151 : decode cX11_shape 151 = .ok (.iconst 0, 1) := by decide +kernel
theorem dX11_shape_152 : decode cX11_shape 152 = .ok (.iload_n 1, 1) := by decide +kernel
theorem dX11_shape_153 : decode cX11_shape 153 = .ok (.invokevirtual 119, 3) := by decide +kernel
theorem dX11_shape_156 : decode cX11_shape 156 = .ok (.imul, 1) := by decide +kernel
theorem dX11_shape_157 : decode cX11_shape 157 = .ok (.ireturn, 1) := by decide +kernel
theorem dX11_shape_158 : decode cX11_shape 158 = .ok (.aload_n 0, 1) := by decide +kernel
theorem dX11_shape_159 : decode cX11_shape 159 = .ok (.iconst 0, 1) := by decide +kernel
theorem dX11_shape_160 : decode cX11_shape 160 = .ok (.iload_n 1, 1) := by decide +kernel
theorem dX11_shape_161 : decode cX11_shape 161 = .ok (.invokevirtual 110, 3) := by decide +kernel
theorem dX11_shape_164 : decode cX11_shape 164 = .ok (.aload_n 0, 1) := by decide +kernel
theorem dX11_shape_165 : decode cX11_shape 165 = .ok (.iconst 0, 1) := by decide +kernel
theorem dX11_shape_166 : decode cX11_shape 166 = .ok (.iload_n 1, 1) := by decide +kernel
theorem dX11_shape_167 : decode cX11_shape 167 = .ok (.invokevirtual 107, 3) := by decide +kernel
theorem dX11_shape_170 : decode cX11_shape 170 = .ok (.iadd, 1) := by decide +kernel
theorem dX11_shape_171 : decode cX11_shape 171 = .ok (.ireturn, 1) := by decide +kernel
theorem dX11_shape_172 : decode cX11_shape 172 = .ok (.aload_n 0, 1) := by decide +kernel
theorem dX11_shape_173 : decode cX11_shape 173 = .ok (.iconst 0, 1) := by decide +kernel
theorem dX11_shape_174 : decode cX11_shape 174 = .ok (.iload_n 1, 1) := by decide +kernel
theorem dX11_shape_175 : decode cX11_shape 175 = .ok (.invokevirtual 122, 3) := by decide +kernel
theorem dX11_shape_178 : decode cX11_shape 178 = .ok (.ireturn, 1) := by decide +kernel
theorem dX11_shape_179 : decode cX11_shape 179 = .ok (.iload_n 3, 1) := by decide +kernel
theorem dX11_shape_180 : decode cX11_shape 180 = .ok (.ireturn, 1) := by decide +kernel
theorem dX11_shape_181 : decode cX11_shape 181 = .ok (.aload_n 0, 1) := by decide +kernel
theorem dX11_shape_182 : decode cX11_shape 182 = .ok (.iconst 0, 1) := by decide +kernel
theorem dX11_shape_183 : decode cX11_shape 183 = .ok (.iload_n 1, 1) := by decide +kernel
theorem dX11_shape_184 : decode cX11_shape 184 = .ok (.iload_n 3, 1) := by decide +kernel
theorem dX11_shape_185 : decode cX11_shape 185 = .ok (.invokevirtual 84, 3) := by decide +kernel
theorem dX11_shape_188 : decode cX11_shape 188 = .ok (.ireturn, 1) := by decide +kernel
theorem dX11_shape_189 : decode cX11_shape 189 = .ok (.aload_n 0, 1) := by decide +kernel
theorem dX11_shape_190 : decode cX11_shape 190 = .ok (.iconst 0, 1) := by decide +kernel
theorem dX11_shape_191 : decode cX11_shape 191 = .ok (.iload_n 1, 1) := by decide +kernel
theorem dX11_shape_192 : decode cX11_shape 192 = .ok (.iload_n 3, 1) := by decide +kernel
theorem dX11_shape_193 : decode cX11_shape 193 = .ok (.invokevirtual 88, 3) := by decide +kernel
theorem dX11_shape_196 : decode cX11_shape 196 = .ok (.ireturn, 1) := by decide +kernel
theorem dX11_shape_197 : decode cX11_shape 197 = .ok (.aload_n 0, 1) := by decide +kernel
theorem dX11_shape_198 : decode cX11_shape 198 = .ok (.iconst 0, 1) := by decide +kernel
theorem dX11_shape_199 : decode cX11_shape 199 = .ok (.iload_n 1, 1) := by decide +kernel
theorem dX11_shape_200 : decode cX11_shape 200 = .ok (.invokevirtual 113, 3) := by decide +kernel
theorem dX11_shape_203 : decode cX11_shape 203 = .ok (.ireturn, 1) := by decide +kernel
theorem dX11_shape_204 : decode cX11_shape 204 = .ok (.aload_n 0, 1) := by decide +kernel
theorem dX11_shape_205 : decode cX11_shape 205 = .ok (.iconst 0, 1) := by decide +kernel
theorem dX11_shape_206 : decode cX11_shape 206 = .ok (.iload_n 1, 1) := by decide +kernel
theorem dX11_shape_207 : decode cX11_shape 207 = .ok (.invokevirtual 101, 3) := by decide +kernel
theorem dX11_shape_210 : decode cX11_shape 210 = .ok (.ireturn, 1) := by decide +kernel
theorem dX11_shape_211 : decode cX11_shape 211 = .ok (.aload_n 0, 1) := by decide +kernel
theorem dX11_shape_212 : decode cX11_shape 212 = .ok (.iconst 0, 1) := by decide +kernel
theorem dX11_shape_213 : decode cX11_shape 213 = .ok (.iload_n 1, 1) := by decide +kernel
theorem dX11_shape_214 : decode cX11_shape 214 = .ok (.invokevirtual 107, 3) := by decide +kernel
theorem dX11_shape_217 : decode cX11_shape 217 = .ok (.ireturn, 1) := by decide +kernel
theorem dX11_shape_218 : decode cX11_shape 218 = .ok (.iconst (-1), 1) := by decide +kernel
theorem dX11_shape_219 : decode cX11_shape 219 = .ok (.ireturn, 1) := by decide +kernel
theorem dX11_wished_0 : decode cX11_wished 0 = .ok (.iload_n 1, 1) := by decide +kernel
theorem dX11_wished_1 : decode cX11_wished 1 = .ok (.iconst 0, 1) := by decide +kernel
theorem dX11_wished_2 : decode cX11_wished 2 = .ok (.iconst 2, 1) := by decide +kernel
theorem dX11_wished_3 : decode cX11_wished 3 = .ok (.invokestatic 52, 3) := by decide +kernel
theorem dX11_wished_6 : decode cX11_wished 6 = .ok (.ifCond .eq 12, 3) := by decide +kernel
theorem dX11_wished_9 : decode cX11_wished 9 = .ok (.aload_n 0, 1) := by decide +kernel
theorem dX11_wished_10 : decode cX11_wished 10 = .ok (.iconst 0, 1) := by decide +kernel
theorem dX11_wished_11 : decode cX11_wished 11 = .ok (.iload_n 1, 1) := by decide +kernel
theorem dX11_wished_12 : decode cX11_wished 12 = .ok (.invokevirtual 132, 3) := by decide +kernel
theorem dX11_wished_15 : decode cX11_wished 15 = .ok (.goto 4, 3) := by decide +kernel
theorem dX11_wished_18 : decode cX11_wished 18 = .ok (.iconst (-1), 1) := by decide +kernel
theorem dX11_wished_19 : decode cX11_wished 19 = .ok (.ireturn, 1) := by decide +kernel
theorem dX11_given_0 : decode cX11_given 0 = .ok (.aload_n 0, 1) := by decide +kernel
theorem dX11_given_1 : decode cX11_given 1 = .ok (.invokevirtual 188, 3) := by decide +kernel
theorem dX11_given_4 : decode cX11_given 4 = .ok (.iload_n 1, 1) := by decide +kernel
theorem dX11_given_5 : decode cX11_given 5 = .ok (.iconst 0, 1) := by decide +kernel
theorem dX11_given_6 : decode cX11_given 6 = .ok (.iload_n 2, 1) := by decide +kernel
theorem dX11_given_7 : decode cX11_given 7 = .ok (.ifCond .eq 10, 3) := by decide +kernel
theorem dX11_given_10 : decode cX11_given 10 = .ok (.aload_n 0, 1) := by decide +kernel
theorem dX11_given_11 : decode cX11_given 11 = .ok (.getfield 154, 3) := by decide +kernel
theorem dX11_given_14 : decode cX11_given 14 = .ok (.goto 7, 3) := by decide +kernel
theorem dX11_given_17 : decode cX11_given 17 = .ok (.aload_n 0, 1) := by decide +kernel
theorem dX11_given_18 : decode cX11_given 18 = .ok (.getfield 151, 3) := by decide +kernel
theorem dX11_given_21 : decode cX11_given 21 = .ok (.iconst 1, 1) := by decide +kernel
theorem dX11_given_22 : decode cX11_given 22 = .ok (.isub, 1) := by decide +kernel
theorem dX11_given_23 : decode cX11_given 23 = .ok (.invokestatic 52, 3) := by decide +kernel
theorem dX11_given_26 : decode cX11_given 26 = .ok (.ifCond .ne 7, 3) := by decide +kernel
theorem dX11_given_29 : decode cX11_given 29 = .ok (.iconst (-1), 1) := by decide +kernel
theorem dX11_given_30 : decode cX11_given 30 = .ok (.goto 22, 3) := by decide +kernel
theorem dX11_given_33 : decode cX11_given 33 = .ok (.iload_n 2, 1) := by decide +kernel
theorem dX11_given_34 : decode cX11_given 34 = .ok (.ifCond .eq 12, 3) := by decide +kernel
theorem dX11_given_37 : decode cX11_given 37 = .ok (.aload_n 0, 1) := by decide +kernel
theorem dX11_given_38 : decode cX11_given 38 = .ok (.getfield 31, 3) := by decide +kernel
theorem dX11_given_41 : decode cX11_given 41 = .ok (.iload_n 1, 1) := by decide +kernel
theorem dX11_given_42 : decode cX11_given 42 = .ok (.iaload, 1) := by decide +kernel
theorem dX11_given_43 : decode cX11_given 43 = .ok (.goto 9, 3) := by decide +kernel
theorem dX11_given_46 : decode cX11_given 46 = .ok (.aload_n 0, 1) := by decide +kernel
theorem dX11_given_47 : decode cX11_given 47 = .ok (.getfield 28, 3) := by decide +kernel
theorem dX11_given_50 : decode cX11_given 50 = .ok (.iload_n 1, 1) := by decide +kernel
theorem dX11_given_51 : decode cX11_given 51 = .ok (.iaload, 1) := by decide +kernel
theorem dX11_given_52 : decode cX11_given 52 = .ok (.ireturn, 1) := by decide +kernel
theorem dX11_cell_0 : decode cX11_cell 0 = .ok (.iload_n 1, 1) := by decide +kernel
theorem dX11_cell_1 : decode cX11_cell 1 = .ok (.iconst 0, 1) := by decide +kernel
theorem dX11_cell_2 : decode cX11_cell 2 = .ok (.aload_n 0, 1) := by decide +kernel
theorem dX11_cell_3 : decode cX11_cell 3 = .ok (.getfield 8, 3) := by decide +kernel
theorem dX11_cell_6 : decode cX11_cell 6 = .ok (.bipush 9, 2) := by decide +kernel
theorem dX11_cell_8 : decode cX11_cell 8 = .ok (.iaload, 1) := by decide +kernel
theorem dX11_cell_9 : decode cX11_cell 9 = .ok (.iconst 1, 1) := by decide +kernel
theorem dX11_cell_10 : decode cX11_cell 10 = .ok (.isub, 1) := by decide +kernel
theorem dX11_cell_11 : decode cX11_cell 11 = .ok (.invokestatic 52, 3) := by decide +kernel
theorem dX11_cell_14 : decode cX11_cell 14 = .ok (.ifCond .eq 12, 3) := by decide +kernel
theorem dX11_cell_17 : decode cX11_cell 17 = .ok (.iload_n 2, 1) := by decide +kernel
theorem dX11_cell_18 : decode cX11_cell 18 = .ok (.iconst 0, 1) := by decide +kernel
theorem dX11_cell_19 : decode cX11_cell 19 = .ok (.iconst 3, 1) := by decide +kernel
theorem dX11_cell_20 : decode cX11_cell 20 = .ok (.invokestatic 52, 3) := by decide +kernel
theorem dX11_cell_23 : decode cX11_cell 23 = .ok (.ifCond .ne 5, 3) := by decide +kernel
theorem dX11_cell_26 : decode cX11_cell 26 = .ok (.iconst (-1), 1) := by decide +kernel
theorem dX11_cell_27 : decode cX11_cell 27 = .ok (.ireturn, 1) := by decide +kernel
theorem dX11_cell_28 : decode cX11_cell 28 = .ok (.iload_n 2, 1) := by decide +kernel
theorem dX11_cell_29 : decode cX11_cell 29 = .ok (.iconst 3, 1) := by decide +kernel
theorem dX11_cell_30 : decode cX11_cell 30 = .ok (.if_icmp .ge 15, 3) := by decide +kernel
theorem dX11_cell_33 : decode cX11_cell 33 = .ok (.aload_n 0, 1) := by decide +kernel
theorem dX11_cell_34 : decode cX11_cell 34 = .ok (.getfield 8, 3) := by decide +kernel
theorem dX11_cell_37 : decode cX11_cell 37 = .ok (.iload_n 1, 1) := by decide +kernel
theorem dX11_cell_38 : decode cX11_cell 38 = .ok (.invokestatic 144, 3) := by decide +kernel
theorem dX11_cell_41 : decode cX11_cell 41 = .ok (.iload_n 2, 1) := by decide +kernel
theorem dX11_cell_42 : decode cX11_cell 42 = .ok (.iadd, 1) := by decide +kernel
theorem dX11_cell_43 : decode cX11_cell 43 = .ok (.iaload, 1) := by decide +kernel
theorem dX11_cell_44 : decode cX11_cell 44 = .ok (.ireturn, 1) := by decide +kernel
theorem dX11_cell_45 : decode cX11_cell 45 = .ok (.aload_n 0, 1) := by decide +kernel
theorem dX11_cell_46 : decode cX11_cell 46 = .ok (.invokevirtual 188, 3) := by decide +kernel
theorem dX11_cell_49 : decode cX11_cell 49 = .ok (.iconst 0, 1) := by decide +kernel
theorem dX11_cell_50 : decode cX11_cell 50 = .ok (.istore_n 3, 1) := by decide +kernel
theorem dX11_cell_51 : decode cX11_cell 51 = .ok (.iload_n 3, 1) := by decide +kernel
theorem dX11_cell_52 : decode cX11_cell 52 = .ok (.aload_n 0, 1) := by decide +kernel
theorem dX11_cell_53 : decode cX11_cell 53 = .ok (.getfield 151, 3) := by decide +kernel
theorem dX11_cell_56 : decode cX11_cell 56 = .ok (.if_icmp .ge 29, 3) := by decide +kernel
theorem dX11_cell_59 : decode cX11_cell 59 = .ok (.aload_n 0, 1) := by decide +kernel
theorem dX11_cell_60 : decode cX11_cell 60 = .ok (.getfield 28, 3) := by decide +kernel
theorem dX11_cell_63 : decode cX11_cell 63 = .ok (.iload_n 3, 1) := by decide +kernel
theorem dX11_cell_64 : decode cX11_cell 64 = .ok (.iaload, 1) := by decide +kernel
theorem dX11_cell_65 : decode cX11_cell 65 = .ok (.aload_n 0, 1) := by decide +kernel
theorem dX11_cell_66 : decode cX11_cell 66 = .ok (.getfield 8, 3) := by decide +kernel
theorem dX11_cell_69 : decode cX11_cell 69 = .ok (.iload_n 1, 1) := by decide +kernel
theorem dX11_cell_70 : decode cX11_cell 70 = .ok (.invokestatic 144, 3) := by decide +kernel
theorem dX11_cell_73 : decode cX11_cell 73 = .ok (.iaload, 1) := by decide +kernel
theorem dX11_cell_74 : decode cX11_cell 74 = .ok (.if_icmp .ne 5, 3) := by decide +kernel
theorem dX11_cell_77 : decode cX11_cell 77 = .ok (.iconst 1, 1) := by decide +kernel
theorem dX11_cell_78 : decode cX11_cell 78 = .ok (.ireturn, 1) := by decide +kernel
theorem dX11_cell_79 : decode cX11_cell 79 = .ok (.iinc 3 1, 3) := by decide +kernel
theorem dX11_cell_82 : decode cX11_cell 82 = .ok (.goto (-31), 3) := by decide +kernel
theorem dX11_cell_85 : decode cX11_cell 85 = .ok (.iconst 0, 1) := by decide +kernel
theorem dX11_cell_86 : decode cX11_cell 86 = .ok (.istore_n 3, 1) := by decide +kernel
theorem dX11_cell_87 : decode cX11_cell 87 = .ok (.iload_n 3, 1) := by decide +kernel
theorem dX11_cell_88 : decode cX11_cell 88 = .ok (.aload_n 0, 1) := by decide +kernel
theorem dX11_cell_89 : decode cX11_cell 89 = .ok (.getfield 154, 3) := by decide +kernel
theorem dX11_cell_92 : decode cX11_cell 92 = .ok (.if_icmp .ge 31, 3) := by decide +kernel
theorem dX11_cell_95 : decode cX11_cell 95 = .ok (.aload_n 0, 1) := by decide +kernel
theorem dX11_cell_96 : decode cX11_cell 96 = .ok (.getfield 31, 3) := by decide +kernel
theorem dX11_cell_99 : decode cX11_cell 99 = .ok (.iload_n 3, 1) := by decide +kernel
theorem dX11_cell_100 : decode cX11_cell 100 = .ok (.iaload, 1) := by decide +kernel
theorem dX11_cell_101 : decode cX11_cell 101 = .ok (.aload_n 0, 1) := by decide +kernel
theorem dX11_cell_102 : decode cX11_cell 102 = .ok (.getfield 8, 3) := by decide +kernel
theorem dX11_cell_105 : decode cX11_cell 105 = .ok (.iload_n 1, 1) := by decide +kernel
theorem dX11_cell_106 : decode cX11_cell 106 = .ok (.invokestatic 144, 3) := by decide +kernel
theorem dX11_cell_109 : decode cX11_cell 109 = .ok (.iconst 1, 1) := by decide +kernel
theorem dX11_cell_110 : decode cX11_cell 110 = .ok (.iadd, 1) := by decide +kernel
theorem dX11_cell_111 : decode cX11_cell 111 = .ok (.iaload, 1) := by decide +kernel
theorem dX11_cell_112 : decode cX11_cell 112 = .ok (.if_icmp .ne 5, 3) := by decide +kernel
theorem dX11_cell_115 : decode cX11_cell 115 = .ok (.iconst 1, 1) := by decide +kernel
theorem dX11_cell_116 : decode cX11_cell 116 = .ok (.ireturn, 1) := by decide +kernel
theorem dX11_cell_117 : decode cX11_cell 117 = .ok (.iinc 3 1, 3) := by decide +kernel
theorem dX11_cell_120 : decode cX11_cell 120 = .ok (.goto (-33), 3) := by decide +kernel
theorem dX11_cell_123 : decode cX11_cell 123 = .ok (.iconst 0, 1) := by decide +kernel
theorem dX11_cell_124 : decode cX11_cell 124 = .ok (.ireturn, 1) := by decide +kernel
theorem dX11_place_0 : decode cX11_place 0 = .ok (.aload_n 0, 1) := by decide +kernel
theorem dX11_place_1 : decode cX11_place 1 = .ok (.iload_n 1, 1) := by decide +kernel
theorem dX11_place_2 : decode cX11_place 2 = .ok (.iload_n 2, 1) := by decide +kernel
theorem dX11_place_3 : decode cX11_place 3 = .ok (.invokevirtual 231, 3) := by decide +kernel
theorem dX11_place_6 : decode cX11_place 6 = .ok (.ifCond .eq 12, 3) := by decide +kernel
theorem dX11_place_9 : decode cX11_place 9 = .ok (.iload_n 3, 1) := by decide +kernel
theorem dX11_place_10 : decode cX11_place 10 = .ok (.iconst 0, 1) := by decide +kernel
theorem dX11_place_11 : decode cX11_place 11 = .ok (.iconst 3, 1) := by decide +kernel
theorem dX11_place_12 : decode cX11_place 12 = .ok (.invokestatic 52, 3) := by decide +kernel
theorem dX11_place_15 : decode cX11_place 15 = .ok (.ifCond .ne 5, 3) := by decide +kernel
theorem dX11_place_18 : decode cX11_place 18 = .ok (.iconst (-1), 1) := by decide +kernel
theorem dX11_place_19 : decode cX11_place 19 = .ok (.ireturn, 1) := by decide +kernel
theorem dX11_place_20 : decode cX11_place 20 = .ok (.aload_n 0, 1) := by decide +kernel
theorem dX11_place_21 : decode cX11_place 21 = .ok (.invokevirtual 188, 3) := by decide +kernel
theorem dX11_place_24 : decode cX11_place 24 = .ok (.aload_n 0, 1) := by decide +kernel
theorem dX11_place_25 : decode cX11_place 25 = .ok (.iload_n 1, 1) := by decide +kernel
theorem dX11_place_26 : decode cX11_place 26 = .ok (.iload_n 2, 1) := by decide +kernel
theorem dX11_place_27 : decode cX11_place 27 = .ok (.invokevirtual 185, 3) := by decide +kernel
theorem dX11_place_30 : decode cX11_place 30 = .ok (.iload_n 3, 1) := by decide +kernel
theorem dX11_place_31 : decode cX11_place 31 = .ok (.ifCond .ne 10, 3) := by decide +kernel
theorem dX11_place_34 : decode cX11_place 34 = .ok (.aload_n 0, 1) := by decide +kernel
theorem dX11_place_35 : decode cX11_place 35 = .ok (.getfield 173, 3) := by decide +kernel
theorem dX11_place_38 : decode cX11_place 38 = .ok (.goto 39, 3) := by decide +kernel
theorem dX11_place_41 : decode cX11_place 41 = .ok (.iload_n 3, 1) := by decide +kernel
theorem dX11_place_42 : decode cX11_place 42 = .ok (.iconst 1, 1) := by decide +kernel
theorem dX11_place_43 : decode cX11_place 43 = .ok (.if_icmp .ne 10, 3) := by decide +kernel
theorem dX11_place_46 : decode cX11_place 46 = .ok (.aload_n 0, 1) := by decide +kernel
theorem dX11_place_47 : decode cX11_place 47 = .ok (.getfield 176, 3) := by decide +kernel
theorem dX11_place_50 : decode cX11_place 50 = .ok (.goto 27, 3) := by decide +kernel
theorem dX11_place_53 : decode cX11_place 53 = .ok (.iload_n 3, 1) := by decide +kernel
theorem dX11_place_54 : decode cX11_place 54 = .ok (.iconst 2, 1) := by decide +kernel
theorem dX11_place_55 : decode cX11_place 55 = .ok (.if_icmp .ne 10, 3) := by decide +kernel
theorem dX11_place_58 : decode cX11_place 58 = .ok (.aload_n 0, 1) := by decide +kernel
theorem dX11_place_59 : decode cX11_place 59 = .ok (.getfield 179, 3) := by decide +kernel
theorem dX11_place_62 : decode cX11_place 62 = .ok (.goto 15, 3) := by decide +kernel
theorem dX11_place_65 : decode cX11_place 65 = .ok (.aload_n 0, 1) := by decide +kernel
theorem dX11_place_66 : decode cX11_place 66 = .ok (.getfield 182, 3) := by decide +kernel
theorem dX11_place_69 : decode cX11_place 69 = .ok (.ifCond .eq 7, 3) := by decide +kernel
theorem dX11_place_72 : decode cX11_place 72 = .ok (.iconst 1, 1) := by decide +kernel
theorem dX11_place_73 : decode cX11_place 73 = .ok (.goto 4, 3) := by decide +kernel
theorem dX11_place_76 : decode cX11_place 76 = .ok (.iconst 0, 1) := by decide +kernel
theorem dX11_place_77 : decode cX11_place 77 = .ok (.ireturn, 1) := by decide +kernel
theorem dX11_read_0 : decode cX11_read 0 = .ok (.iload_n 1, 1) := by decide +kernel
theorem dX11_read_1 : decode cX11_read 1 = .ok (.iconst 0, 1) := by decide +kernel
theorem dX11_read_2 : decode cX11_read 2 = .ok (.aload_n 0, 1) := by decide +kernel
theorem dX11_read_3 : decode cX11_read 3 = .ok (.getfield 8, 3) := by decide +kernel
theorem dX11_read_6 : decode cX11_read 6 = .ok (.iconst 0, 1) := by decide +kernel
theorem dX11_read_7 : decode cX11_read 7 = .ok (.iaload, 1) := by decide +kernel
theorem dX11_read_8 : decode cX11_read 8 = .ok (.iconst 1, 1) := by decide +kernel
theorem dX11_read_9 : decode cX11_read 9 = .ok (.isub, 1) := by decide +kernel
theorem dX11_read_10 : decode cX11_read 10 = .ok (.invokestatic 52, 3) := by decide +kernel
theorem dX11_read_13 : decode cX11_read 13 = .ok (.ifCond .ne 5, 3) := by decide +kernel
theorem dX11_read_16 : decode cX11_read 16 = .ok (.iconst 0, 1) := by decide +kernel
theorem dX11_read_17 : decode cX11_read 17 = .ok (.ireturn, 1) := by decide +kernel
theorem dX11_read_18 : decode cX11_read 18 = .ok (.aload_n 0, 1) := by decide +kernel
theorem dX11_read_19 : decode cX11_read 19 = .ok (.invokevirtual 188, 3) := by decide +kernel
theorem dX11_read_22 : decode cX11_read 22 = .ok (.iconst 0, 1) := by decide +kernel
theorem dX11_read_23 : decode cX11_read 23 = .ok (.istore_n 2, 1) := by decide +kernel
theorem dX11_read_24 : decode cX11_read 24 = .ok (.iconst 0, 1) := by decide +kernel
theorem dX11_read_25 : decode cX11_read 25 = .ok (.istore_n 3, 1) := by decide +kernel
theorem dX11_read_26 : decode cX11_read 26 = .ok (.iload_n 3, 1) := by decide +kernel
theorem dX11_read_27 : decode cX11_read 27 = .ok (.aload_n 0, 1) := by decide +kernel
theorem dX11_read_28 : decode cX11_read 28 = .ok (.getfield 8, 3) := by decide +kernel
theorem dX11_read_31 : decode cX11_read 31 = .ok (.iconst 1, 1) := by decide +kernel
theorem dX11_read_32 : decode cX11_read 32 = .ok (.iaload, 1) := by decide +kernel
theorem dX11_read_33 : decode cX11_read 33 = .ok (.if_icmp .ge 24, 3) := by decide +kernel
theorem dX11_read_36 : decode cX11_read 36 = .ok (.aload_n 0, 1) := by decide +kernel
theorem dX11_read_37 : decode cX11_read 37 = .ok (.iload_n 1, 1) := by decide +kernel
theorem dX11_read_38 : decode cX11_read 38 = .ok (.iload_n 3, 1) := by decide +kernel
theorem dX11_read_39 : decode cX11_read 39 = .ok (.invokevirtual 185, 3) := by decide +kernel
theorem dX11_read_42 : decode cX11_read 42 = .ok (.iload_n 2, 1) := by decide +kernel
theorem dX11_read_43 : decode cX11_read 43 = .ok (.aload_n 0, 1) := by decide +kernel
theorem dX11_read_44 : decode cX11_read 44 = .ok (.getfield 179, 3) := by decide +kernel
theorem dX11_read_47 : decode cX11_read 47 = .ok (.iload_n 3, 1) := by decide +kernel
theorem dX11_read_48 : decode cX11_read 48 = .ok (.ishl, 1) := by decide +kernel
theorem dX11_read_49 : decode cX11_read 49 = .ok (.ior, 1) := by decide +kernel
theorem dX11_read_50 : decode cX11_read 50 = .ok (.istore_n 2, 1) := by decide +kernel
theorem dX11_read_51 : decode cX11_read 51 = .ok (.iinc 3 1, 3) := by decide +kernel
theorem dX11_read_54 : decode cX11_read 54 = .ok (.goto (-28), 3) := by decide +kernel
theorem dX11_read_57 : decode cX11_read 57 = .ok (.iload_n 2, 1) := by decide +kernel
theorem dX11_read_58 : decode cX11_read 58 = .ok (.ireturn, 1) := by decide +kernel
theorem dX11_test_0 : decode cX11_test 0 = .ok (.aload_n 0, 1) := by decide +kernel
theorem dX11_test_1 : decode cX11_test 1 = .ok (.iload_n 1, 1) := by decide +kernel
theorem dX11_test_2 : decode cX11_test 2 = .ok (.ifCond .eq 7, 3) := by decide +kernel
theorem dX11_test_5 : decode cX11_test 5 = .ok (.iconst 2, 1) := by decide +kernel
theorem dX11_test_6 : decode cX11_test 6 = .ok (.goto 4, 3) := by decide +kernel
theorem dX11_test_9 : decode cX11_test 9 = .ok (.iconst 3, 1) := by decide +kernel
theorem dX11_test_10 : decode cX11_test 10 = .ok (.invokevirtual 225, 3) := by decide +kernel
theorem dX11_test_13 : decode cX11_test 13 = .ok (.ireturn, 1) := by decide +kernel
theorem dX11_most_0 : decode cX11_most 0 = .ok (.aload_n 0, 1) := by decide +kernel
theorem dX11_most_1 : decode cX11_most 1 = .ok (.iconst 0, 1) := by decide +kernel
theorem dX11_most_2 : decode cX11_most 2 = .ok (.sipush 4211, 3) := by decide +kernel
theorem dX11_most_5 : decode cX11_most 5 = .ok (.bipush 46, 2) := by decide +kernel
theorem dX11_most_7 : decode cX11_most 7 = .ok (.invokevirtual 194, 3) := by decide +kernel
theorem dX11_most_10 : decode cX11_most 10 = .ok (.aload_n 0, 1) := by decide +kernel
theorem dX11_most_11 : decode cX11_most 11 = .ok (.getfield 8, 3) := by decide +kernel
theorem dX11_most_14 : decode cX11_most 14 = .ok (.sipush 4213, 3) := by decide +kernel
theorem dX11_most_17 : decode cX11_most 17 = .ok (.iconst 0, 1) := by decide +kernel
theorem dX11_most_18 : decode cX11_most 18 = .ok (.iastore, 1) := by decide +kernel
theorem dX11_most_19 : decode cX11_most 19 = .ok (.sipush 1024, 3) := by decide +kernel
theorem dX11_most_22 : decode cX11_most 22 = .ok (.istore_n 3, 1) := by decide +kernel
theorem dX11_most_23 : decode cX11_most 23 = .ok (.iload_n 3, 1) := by decide +kernel
theorem dX11_most_24 : decode cX11_most 24 = .ok (.bipush 16, 2) := by decide +kernel
theorem dX11_most_26 : decode cX11_most 26 = .ok (.if_icmp .lt 78, 3) := by decide +kernel
theorem dX11_most_29 : decode cX11_most 29 = .ok (.aload_n 0, 1) := by decide +kernel
theorem dX11_most_30 : decode cX11_most 30 = .ok (.getfield 8, 3) := by decide +kernel
theorem dX11_most_33 : decode cX11_most 33 = .ok (.sipush 4211, 3) := by decide +kernel
theorem dX11_most_36 : decode cX11_most 36 = .ok (.iload_n 3, 1) := by decide +kernel
theorem dX11_most_37 : decode cX11_most 37 = .ok (.iastore, 1) := by decide +kernel
theorem dX11_most_38 : decode cX11_most 38 = .ok (.iconst 1, 1) := by decide +kernel
theorem dX11_most_39 : decode cX11_most 39 = .ok (.istore 4, 2) := by decide +kernel
theorem dX11_most_41 : decode cX11_most 41 = .ok (.iload 4, 2) := by decide +kernel
theorem dX11_most_43 : decode cX11_most 43 = .ok (.bipush 8, 2) := by decide +kernel
theorem dX11_most_45 : decode cX11_most 45 = .ok (.if_icmp .gt 52, 3) := by decide +kernel
theorem dX11_most_48 : decode cX11_most 48 = .ok (.aload_n 0, 1) := by decide +kernel
theorem dX11_most_49 : decode cX11_most 49 = .ok (.sipush 4211, 3) := by decide +kernel
theorem dX11_most_52 : decode cX11_most 52 = .ok (.iload 4, 2) := by decide +kernel
theorem dX11_most_54 : decode cX11_most 54 = .ok (.invokevirtual 125, 3) := by decide +kernel
theorem dX11_most_57 : decode cX11_most 57 = .ok (.ifCond .eq 31, 3) := by decide +kernel
theorem dX11_most_60 : decode cX11_most 60 = .ok (.aload_n 0, 1) := by decide +kernel
theorem dX11_most_61 : decode cX11_most 61 = .ok (.sipush 4211, 3) := by decide +kernel
theorem dX11_most_64 : decode cX11_most 64 = .ok (.iload 4, 2) := by decide +kernel
theorem dX11_most_66 : decode cX11_most 66 = .ok (.invokevirtual 116, 3) := by decide +kernel
theorem dX11_most_69 : decode cX11_most 69 = .ok (.iload_n 1, 1) := by decide +kernel
theorem dX11_most_70 : decode cX11_most 70 = .ok (.if_icmp .gt 18, 3) := by decide +kernel
theorem dX11_most_73 : decode cX11_most 73 = .ok (.aload_n 0, 1) := by decide +kernel
theorem dX11_most_74 : decode cX11_most 74 = .ok (.sipush 4211, 3) := by decide +kernel
theorem dX11_most_77 : decode cX11_most 77 = .ok (.iload 4, 2) := by decide +kernel
theorem dX11_most_79 : decode cX11_most 79 = .ok (.invokevirtual 119, 3) := by decide +kernel
theorem dX11_most_82 : decode cX11_most 82 = .ok (.iload_n 2, 1) := by decide +kernel
theorem dX11_most_83 : decode cX11_most 83 = .ok (.if_icmp .gt 5, 3) := by decide +kernel
theorem dX11_most_86 : decode cX11_most 86 = .ok (.iload_n 3, 1) := by decide +kernel
theorem dX11_most_87 : decode cX11_most 87 = .ok (.ireturn, 1) := by decide +kernel
theorem dX11_most_88 : decode cX11_most 88 = .ok (.iload 4, 2) := by decide +kernel
theorem dX11_most_90 : decode cX11_most 90 = .ok (.iconst 2, 1) := by decide +kernel
theorem dX11_most_91 : decode cX11_most 91 = .ok (.imul, 1) := by decide +kernel
theorem dX11_most_92 : decode cX11_most 92 = .ok (.istore 4, 2) := by decide +kernel
theorem dX11_most_94 : decode cX11_most 94 = .ok (.goto (-53), 3) := by decide +kernel
theorem dX11_most_97 : decode cX11_most 97 = .ok (.iload_n 3, 1) := by decide +kernel
theorem dX11_most_98 : decode cX11_most 98 = .ok (.iconst 2, 1) := by decide +kernel
theorem dX11_most_99 : decode cX11_most 99 = .ok (.idiv, 1) := by decide +kernel
theorem dX11_most_100 : decode cX11_most 100 = .ok (.istore_n 3, 1) := by decide +kernel
theorem dX11_most_101 : decode cX11_most 101 = .ok (.goto (-78), 3) := by decide +kernel
theorem dX11_most_104 : decode cX11_most 104 = .ok (.iconst (-1), 1) := by decide +kernel
theorem dX11_most_105 : decode cX11_most 105 = .ok (.ireturn, 1) := by decide +kernel
theorem dX11_fewest_0 : decode cX11_fewest 0 = .ok (.iconst 0, 1) := by decide +kernel
theorem dX11_fewest_1 : decode cX11_fewest 1 = .ok (.istore_n 1, 1) := by decide +kernel
theorem dX11_fewest_2 : decode cX11_fewest 2 = .ok (.iload_n 1, 1) := by decide +kernel
theorem dX11_fewest_3 : decode cX11_fewest 3 = .ok (.iconst 4, 1) := by decide +kernel
theorem dX11_fewest_4 : decode cX11_fewest 4 = .ok (.if_icmp .gt 23, 3) := by decide +kernel
theorem dX11_fewest_7 : decode cX11_fewest 7 = .ok (.aload_n 0, 1) := by decide +kernel
theorem dX11_fewest_8 : decode cX11_fewest 8 = .ok (.iload_n 1, 1) := by decide +kernel
theorem dX11_fewest_9 : decode cX11_fewest 9 = .ok (.invokevirtual 170, 3) := by decide +kernel
theorem dX11_fewest_12 : decode cX11_fewest 12 = .ok (.aload_n 0, 1) := by decide +kernel
theorem dX11_fewest_13 : decode cX11_fewest 13 = .ok (.getfield 147, 3) := by decide +kernel
theorem dX11_fewest_16 : decode cX11_fewest 16 = .ok (.ifCond .eq 5, 3) := by decide +kernel
theorem dX11_fewest_19 : decode cX11_fewest 19 = .ok (.iload_n 1, 1) := by decide +kernel
theorem dX11_fewest_20 : decode cX11_fewest 20 = .ok (.ireturn, 1) := by decide +kernel
theorem dX11_fewest_21 : decode cX11_fewest 21 = .ok (.iinc 1 1, 3) := by decide +kernel
theorem dX11_fewest_24 : decode cX11_fewest 24 = .ok (.goto (-22), 3) := by decide +kernel
theorem dX11_fewest_27 : decode cX11_fewest 27 = .ok (.iconst (-1), 1) := by decide +kernel
theorem dX11_fewest_28 : decode cX11_fewest 28 = .ok (.ireturn, 1) := by decide +kernel
theorem dX11_adds_0 : decode cX11_adds 0 = .ok (.aload_n 0, 1) := by decide +kernel
theorem dX11_adds_1 : decode cX11_adds 1 = .ok (.getfield 37, 3) := by decide +kernel
theorem dX11_adds_4 : decode cX11_adds 4 = .ok (.aload_n 0, 1) := by decide +kernel
theorem dX11_adds_5 : decode cX11_adds 5 = .ok (.getfield 234, 3) := by decide +kernel
theorem dX11_adds_8 : decode cX11_adds 8 = .ok (.iload_n 1, 1) := by decide +kernel
theorem dX11_adds_9 : decode cX11_adds 9 = .ok (.iastore, 1) := by decide +kernel
theorem dX11_adds_10 : decode cX11_adds 10 = .ok (.aload_n 0, 1) := by decide +kernel
theorem dX11_adds_11 : decode cX11_adds 11 = .ok (.dup, 1) := by decide +kernel
theorem dX11_adds_12 : decode cX11_adds 12 = .ok (.getfield 234, 3) := by decide +kernel
theorem dX11_adds_15 : decode cX11_adds 15 = .ok (.iconst 1, 1) := by decide +kernel
theorem dX11_adds_16 : decode cX11_adds 16 = .ok (.iadd, 1) := by decide +kernel
theorem dX11_adds_17 : decode cX11_adds 17 = .ok (.putfield 234, 3) := by decide +kernel
theorem dX11_adds_20 : decode cX11_adds 20 = .ok (.return_, 1) := by decide +kernel
theorem dX11_word_0 : decode cX11_word 0 = .ok (.lconst 1, 1) := by decide +kernel
theorem dX11_word_1 : decode cX11_word 1 = .ok (.lstore_n 3, 1) := by decide +kernel
theorem dX11_word_2 : decode cX11_word 2 = .ok (.lload_n 1, 1) := by decide +kernel
theorem dX11_word_3 : decode cX11_word 3 = .ok (.lload_n 3, 1) := by decide +kernel
theorem dX11_word_4 : decode cX11_word 4 = .ok (.ldiv, 1) := by decide +kernel
theorem dX11_word_5 : decode cX11_word 5 = .ok (.ldc2_w 237, 3) := by decide +kernel
theorem dX11_word_8 : decode cX11_word 8 = .ok (.lcmp, 1) := by decide +kernel
theorem dX11_word_9 : decode cX11_word 9 = .ok (.ifCond .le 12, 3) := by decide +kernel
theorem dX11_word_12 : decode cX11_word 12 = .ok (.lload_n 3, 1) := by decide +kernel
theorem dX11_word_13 : decode cX11_word 13 = .ok (.ldc2_w 239, 3) := by decide +kernel
theorem dX11_word_16 : decode cX11_word 16 = .ok (.lmul, 1) := by decide +kernel
theorem dX11_word_17 : decode cX11_word 17 = .ok (.lstore_n 3, 1) := by decide +kernel
theorem dX11_word_18 : decode cX11_word 18 = .ok (.goto (-16), 3) := by decide +kernel
theorem dX11_word_21 : decode cX11_word 21 = .ok (.lload_n 3, 1) := by decide +kernel
theorem dX11_word_22 : decode cX11_word 22 = .ok (.lconst 0, 1) := by decide +kernel
theorem dX11_word_23 : decode cX11_word 23 = .ok (.lcmp, 1) := by decide +kernel
theorem dX11_word_24 : decode cX11_word 24 = .ok (.ifCond .le 29, 3) := by decide +kernel
theorem dX11_word_27 : decode cX11_word 27 = .ok (.aload_n 0, 1) := by decide +kernel
theorem dX11_word_28 : decode cX11_word 28 = .ok (.lload_n 1, 1) := by decide +kernel
theorem dX11_word_29 : decode cX11_word 29 = .ok (.lload_n 3, 1) := by decide +kernel
theorem dX11_word_30 : decode cX11_word 30 = .ok (.ldiv, 1) := by decide +kernel
theorem dX11_word_31 : decode cX11_word 31 = .ok (.ldc2_w 239, 3) := by decide +kernel
theorem dX11_word_34 : decode cX11_word 34 = .ok (.lrem, 1) := by decide +kernel
theorem dX11_word_35 : decode cX11_word 35 = .ok (.l2i, 1) := by decide +kernel
theorem dX11_word_36 : decode cX11_word 36 = .ok (.bipush 97, 2) := by decide +kernel
theorem dX11_word_38 : decode cX11_word 38 = .ok (.iadd, 1) := by decide +kernel
theorem dX11_word_39 : decode cX11_word 39 = .ok (.iconst 1, 1) := by decide +kernel
theorem dX11_word_40 : decode cX11_word 40 = .ok (.isub, 1) := by decide +kernel
theorem dX11_word_41 : decode cX11_word 41 = .ok (.invokevirtual 241, 3) := by decide +kernel
theorem dX11_word_44 : decode cX11_word 44 = .ok (.lload_n 3, 1) := by decide +kernel
theorem dX11_word_45 : decode cX11_word 45 = .ok (.ldc2_w 239, 3) := by decide +kernel
theorem dX11_word_48 : decode cX11_word 48 = .ok (.ldiv, 1) := by decide +kernel
theorem dX11_word_49 : decode cX11_word 49 = .ok (.lstore_n 3, 1) := by decide +kernel
theorem dX11_word_50 : decode cX11_word 50 = .ok (.goto (-29), 3) := by decide +kernel
theorem dX11_word_53 : decode cX11_word 53 = .ok (.return_, 1) := by decide +kernel
theorem dX11_number_0 : decode cX11_number 0 = .ok (.iconst 1, 1) := by decide +kernel
theorem dX11_number_1 : decode cX11_number 1 = .ok (.istore_n 2, 1) := by decide +kernel
theorem dX11_number_2 : decode cX11_number 2 = .ok (.iload_n 1, 1) := by decide +kernel
theorem dX11_number_3 : decode cX11_number 3 = .ok (.iload_n 2, 1) := by decide +kernel
theorem dX11_number_4 : decode cX11_number 4 = .ok (.idiv, 1) := by decide +kernel
theorem dX11_number_5 : decode cX11_number 5 = .ok (.bipush 9, 2) := by decide +kernel
theorem dX11_number_7 : decode cX11_number 7 = .ok (.if_icmp .le 11, 3) := by decide +kernel
theorem dX11_number_10 : decode cX11_number 10 = .ok (.iload_n 2, 1) := by decide +kernel
theorem dX11_number_11 : decode cX11_number 11 = .ok (.bipush 10, 2) := by decide +kernel
theorem dX11_number_13 : decode cX11_number 13 = .ok (.imul, 1) := by decide +kernel
theorem dX11_number_14 : decode cX11_number 14 = .ok (.istore_n 2, 1) := by decide +kernel
theorem dX11_number_15 : decode cX11_number 15 = .ok (.goto (-13), 3) := by decide +kernel
theorem dX11_number_18 : decode cX11_number 18 = .ok (.aload_n 0, 1) := by decide +kernel
theorem dX11_number_19 : decode cX11_number 19 = .ok (.bipush 32, 2) := by decide +kernel
theorem dX11_number_21 : decode cX11_number 21 = .ok (.invokevirtual 241, 3) := by decide +kernel
theorem dX11_number_24 : decode cX11_number 24 = .ok (.iload_n 2, 1) := by decide +kernel
theorem dX11_number_25 : decode cX11_number 25 = .ok (.ifCond .le 24, 3) := by decide +kernel
theorem dX11_number_28 : decode cX11_number 28 = .ok (.aload_n 0, 1) := by decide +kernel
theorem dX11_number_29 : decode cX11_number 29 = .ok (.bipush 48, 2) := by decide +kernel
theorem dX11_number_31 : decode cX11_number 31 = .ok (.iload_n 1, 1) := by decide +kernel
theorem dX11_number_32 : decode cX11_number 32 = .ok (.iload_n 2, 1) := by decide +kernel
theorem dX11_number_33 : decode cX11_number 33 = .ok (.idiv, 1) := by decide +kernel
theorem dX11_number_34 : decode cX11_number 34 = .ok (.bipush 10, 2) := by decide +kernel
theorem dX11_number_36 : decode cX11_number 36 = .ok (.irem, 1) := by decide +kernel
theorem dX11_number_37 : decode cX11_number 37 = .ok (.iadd, 1) := by decide +kernel
theorem dX11_number_38 : decode cX11_number 38 = .ok (.invokevirtual 241, 3) := by decide +kernel
theorem dX11_number_41 : decode cX11_number 41 = .ok (.iload_n 2, 1) := by decide +kernel
theorem dX11_number_42 : decode cX11_number 42 = .ok (.bipush 10, 2) := by decide +kernel
theorem dX11_number_44 : decode cX11_number 44 = .ok (.idiv, 1) := by decide +kernel
theorem dX11_number_45 : decode cX11_number 45 = .ok (.istore_n 2, 1) := by decide +kernel
theorem dX11_number_46 : decode cX11_number 46 = .ok (.goto (-22), 3) := by decide +kernel
theorem dX11_number_49 : decode cX11_number 49 = .ok (.return_, 1) := by decide +kernel
theorem dX11_line_0 : decode cX11_line 0 = .ok (.aload_n 0, 1) := by decide +kernel
theorem dX11_line_1 : decode cX11_line 1 = .ok (.lload_n 1, 1) := by decide +kernel
theorem dX11_line_2 : decode cX11_line 2 = .ok (.invokevirtual 244, 3) := by decide +kernel
theorem dX11_line_5 : decode cX11_line 5 = .ok (.aload_n 0, 1) := by decide +kernel
theorem dX11_line_6 : decode cX11_line 6 = .ok (.iload_n 3, 1) := by decide +kernel
theorem dX11_line_7 : decode cX11_line 7 = .ok (.invokevirtual 248, 3) := by decide +kernel
theorem dX11_line_10 : decode cX11_line 10 = .ok (.iload 4, 2) := by decide +kernel
theorem dX11_line_12 : decode cX11_line 12 = .ok (.iconst (-1), 1) := by decide +kernel
theorem dX11_line_13 : decode cX11_line 13 = .ok (.if_icmp .eq 9, 3) := by decide +kernel
theorem dX11_line_16 : decode cX11_line 16 = .ok (.aload_n 0, 1) := by decide +kernel
theorem dX11_line_17 : decode cX11_line 17 = .ok (.iload 4, 2) := by decide +kernel
theorem dX11_line_19 : decode cX11_line 19 = .ok (.invokevirtual 248, 3) := by decide +kernel
theorem dX11_line_22 : decode cX11_line 22 = .ok (.iload 5, 2) := by decide +kernel
theorem dX11_line_24 : decode cX11_line 24 = .ok (.iconst (-1), 1) := by decide +kernel
theorem dX11_line_25 : decode cX11_line 25 = .ok (.if_icmp .eq 9, 3) := by decide +kernel
theorem dX11_line_28 : decode cX11_line 28 = .ok (.aload_n 0, 1) := by decide +kernel
theorem dX11_line_29 : decode cX11_line 29 = .ok (.iload 5, 2) := by decide +kernel
theorem dX11_line_31 : decode cX11_line 31 = .ok (.invokevirtual 248, 3) := by decide +kernel
theorem dX11_line_34 : decode cX11_line 34 = .ok (.aload_n 0, 1) := by decide +kernel
theorem dX11_line_35 : decode cX11_line 35 = .ok (.bipush 59, 2) := by decide +kernel
theorem dX11_line_37 : decode cX11_line 37 = .ok (.invokevirtual 241, 3) := by decide +kernel
theorem dX11_line_40 : decode cX11_line 40 = .ok (.return_, 1) := by decide +kernel
theorem dX11_laysView_0 : decode cX11_laysView 0 = .ok (.aload_n 0, 1) := by decide +kernel
theorem dX11_laysView_1 : decode cX11_laysView 1 = .ok (.iconst 0, 1) := by decide +kernel
theorem dX11_laysView_2 : decode cX11_laysView 2 = .ok (.putfield 234, 3) := by decide +kernel
theorem dX11_laysView_5 : decode cX11_laysView 5 = .ok (.aload_n 0, 1) := by decide +kernel
theorem dX11_laysView_6 : decode cX11_laysView 6 = .ok (.invokevirtual 188, 3) := by decide +kernel
theorem dX11_laysView_9 : decode cX11_laysView 9 = .ok (.iload_n 1, 1) := by decide +kernel
theorem dX11_laysView_10 : decode cX11_laysView 10 = .ok (.ifCond .ne 222, 3) := by decide +kernel
theorem dX11_laysView_13 : decode cX11_laysView 13 = .ok (.aload_n 0, 1) := by decide +kernel
theorem dX11_laysView_14 : decode cX11_laysView 14 = .ok (.ldc2_w 251, 3) := by decide +kernel
theorem dX11_laysView_17 : decode cX11_laysView 17 = .ok (.aload_n 0, 1) := by decide +kernel
theorem dX11_laysView_18 : decode cX11_laysView 18 = .ok (.getfield 8, 3) := by decide +kernel
theorem dX11_laysView_21 : decode cX11_laysView 21 = .ok (.iconst 0, 1) := by decide +kernel
theorem dX11_laysView_22 : decode cX11_laysView 22 = .ok (.iaload, 1) := by decide +kernel
theorem dX11_laysView_23 : decode cX11_laysView 23 = .ok (.iconst (-1), 1) := by decide +kernel
theorem dX11_laysView_24 : decode cX11_laysView 24 = .ok (.iconst (-1), 1) := by decide +kernel
theorem dX11_laysView_25 : decode cX11_laysView 25 = .ok (.invokevirtual 253, 3) := by decide +kernel
theorem dX11_laysView_28 : decode cX11_laysView 28 = .ok (.aload_n 0, 1) := by decide +kernel
theorem dX11_laysView_29 : decode cX11_laysView 29 = .ok (.ldc2_w 257, 3) := by decide +kernel
theorem dX11_laysView_32 : decode cX11_laysView 32 = .ok (.aload_n 0, 1) := by decide +kernel
theorem dX11_laysView_33 : decode cX11_laysView 33 = .ok (.getfield 8, 3) := by decide +kernel
theorem dX11_laysView_36 : decode cX11_laysView 36 = .ok (.iconst 1, 1) := by decide +kernel
theorem dX11_laysView_37 : decode cX11_laysView 37 = .ok (.iaload, 1) := by decide +kernel
theorem dX11_laysView_38 : decode cX11_laysView 38 = .ok (.iconst (-1), 1) := by decide +kernel
theorem dX11_laysView_39 : decode cX11_laysView 39 = .ok (.iconst (-1), 1) := by decide +kernel
theorem dX11_laysView_40 : decode cX11_laysView 40 = .ok (.invokevirtual 253, 3) := by decide +kernel
theorem dX11_laysView_43 : decode cX11_laysView 43 = .ok (.aload_n 0, 1) := by decide +kernel
theorem dX11_laysView_44 : decode cX11_laysView 44 = .ok (.ldc2_w 259, 3) := by decide +kernel
theorem dX11_laysView_47 : decode cX11_laysView 47 = .ok (.aload_n 0, 1) := by decide +kernel
theorem dX11_laysView_48 : decode cX11_laysView 48 = .ok (.getfield 8, 3) := by decide +kernel
theorem dX11_laysView_51 : decode cX11_laysView 51 = .ok (.iconst 2, 1) := by decide +kernel
theorem dX11_laysView_52 : decode cX11_laysView 52 = .ok (.iaload, 1) := by decide +kernel
theorem dX11_laysView_53 : decode cX11_laysView 53 = .ok (.iconst (-1), 1) := by decide +kernel
theorem dX11_laysView_54 : decode cX11_laysView 54 = .ok (.iconst (-1), 1) := by decide +kernel
theorem dX11_laysView_55 : decode cX11_laysView 55 = .ok (.invokevirtual 253, 3) := by decide +kernel
theorem dX11_laysView_58 : decode cX11_laysView 58 = .ok (.aload_n 0, 1) := by decide +kernel
theorem dX11_laysView_59 : decode cX11_laysView 59 = .ok (.ldc2_w 261, 3) := by decide +kernel
theorem dX11_laysView_62 : decode cX11_laysView 62 = .ok (.aload_n 0, 1) := by decide +kernel
theorem dX11_laysView_63 : decode cX11_laysView 63 = .ok (.getfield 8, 3) := by decide +kernel
theorem dX11_laysView_66 : decode cX11_laysView 66 = .ok (.iconst 3, 1) := by decide +kernel
theorem dX11_laysView_67 : decode cX11_laysView 67 = .ok (.iaload, 1) := by decide +kernel
theorem dX11_laysView_68 : decode cX11_laysView 68 = .ok (.aload_n 0, 1) := by decide +kernel
theorem dX11_laysView_69 : decode cX11_laysView 69 = .ok (.getfield 8, 3) := by decide +kernel
theorem dX11_laysView_72 : decode cX11_laysView 72 = .ok (.iconst 4, 1) := by decide +kernel
theorem dX11_laysView_73 : decode cX11_laysView 73 = .ok (.iaload, 1) := by decide +kernel
theorem dX11_laysView_74 : decode cX11_laysView 74 = .ok (.iconst (-1), 1) := by decide +kernel
theorem dX11_laysView_75 : decode cX11_laysView 75 = .ok (.invokevirtual 253, 3) := by decide +kernel
theorem dX11_laysView_78 : decode cX11_laysView 78 = .ok (.aload_n 0, 1) := by decide +kernel
theorem dX11_laysView_79 : decode cX11_laysView 79 = .ok (.ldc2_w 263, 3) := by decide +kernel
theorem dX11_laysView_82 : decode cX11_laysView 82 = .ok (.aload_n 0, 1) := by decide +kernel
theorem dX11_laysView_83 : decode cX11_laysView 83 = .ok (.getfield 8, 3) := by decide +kernel
theorem dX11_laysView_86 : decode cX11_laysView 86 = .ok (.iconst 5, 1) := by decide +kernel
theorem dX11_laysView_87 : decode cX11_laysView 87 = .ok (.iaload, 1) := by decide +kernel
theorem dX11_laysView_88 : decode cX11_laysView 88 = .ok (.aload_n 0, 1) := by decide +kernel
theorem dX11_laysView_89 : decode cX11_laysView 89 = .ok (.getfield 8, 3) := by decide +kernel
theorem dX11_laysView_92 : decode cX11_laysView 92 = .ok (.bipush 6, 2) := by decide +kernel
theorem dX11_laysView_94 : decode cX11_laysView 94 = .ok (.iaload, 1) := by decide +kernel
theorem dX11_laysView_95 : decode cX11_laysView 95 = .ok (.iconst (-1), 1) := by decide +kernel
theorem dX11_laysView_96 : decode cX11_laysView 96 = .ok (.invokevirtual 253, 3) := by decide +kernel
theorem dX11_laysView_99 : decode cX11_laysView 99 = .ok (.aload_n 0, 1) := by decide +kernel
theorem dX11_laysView_100 : decode cX11_laysView 100 = .ok (.ldc2_w 265, 3) := by decide +kernel
theorem dX11_laysView_103 : decode cX11_laysView 103 = .ok (.aload_n 0, 1) := by decide +kernel
theorem dX11_laysView_104 : decode cX11_laysView 104 = .ok (.getfield 8, 3) := by decide +kernel
theorem dX11_laysView_107 : decode cX11_laysView 107 = .ok (.bipush 7, 2) := by decide +kernel
theorem dX11_laysView_109 : decode cX11_laysView 109 = .ok (.iaload, 1) := by decide +kernel
theorem dX11_laysView_110 : decode cX11_laysView 110 = .ok (.iconst (-1), 1) := by decide +kernel
theorem dX11_laysView_111 : decode cX11_laysView 111 = .ok (.iconst (-1), 1) := by decide +kernel
theorem dX11_laysView_112 : decode cX11_laysView 112 = .ok (.invokevirtual 253, 3) := by decide +kernel
theorem dX11_laysView_115 : decode cX11_laysView 115 = .ok (.aload_n 0, 1) := by decide +kernel
theorem dX11_laysView_116 : decode cX11_laysView 116 = .ok (.ldc2_w 267, 3) := by decide +kernel
theorem dX11_laysView_119 : decode cX11_laysView 119 = .ok (.invokevirtual 244, 3) := by decide +kernel
theorem dX11_laysView_122 : decode cX11_laysView 122 = .ok (.aload_n 0, 1) := by decide +kernel
theorem dX11_laysView_123 : decode cX11_laysView 123 = .ok (.bipush 32, 2) := by decide +kernel
theorem dX11_laysView_125 : decode cX11_laysView 125 = .ok (.invokevirtual 241, 3) := by decide +kernel
theorem dX11_laysView_128 : decode cX11_laysView 128 = .ok (.aload_n 0, 1) := by decide +kernel
theorem dX11_laysView_129 : decode cX11_laysView 129 = .ok (.aload_n 0, 1) := by decide +kernel
theorem dX11_laysView_130 : decode cX11_laysView 130 = .ok (.getfield 8, 3) := by decide +kernel
theorem dX11_laysView_133 : decode cX11_laysView 133 = .ok (.bipush 8, 2) := by decide +kernel
theorem dX11_laysView_135 : decode cX11_laysView 135 = .ok (.iaload, 1) := by decide +kernel
theorem dX11_laysView_136 : decode cX11_laysView 136 = .ok (.ifCond .ne 9, 3) := by decide +kernel
theorem dX11_laysView_139 : decode cX11_laysView 139 = .ok (.ldc2_w 269, 3) := by decide +kernel
theorem dX11_laysView_142 : decode cX11_laysView 142 = .ok (.goto 23, 3) := by decide +kernel
theorem dX11_laysView_145 : decode cX11_laysView 145 = .ok (.aload_n 0, 1) := by decide +kernel
theorem dX11_laysView_146 : decode cX11_laysView 146 = .ok (.getfield 8, 3) := by decide +kernel
theorem dX11_laysView_149 : decode cX11_laysView 149 = .ok (.bipush 8, 2) := by decide +kernel
theorem dX11_laysView_151 : decode cX11_laysView 151 = .ok (.iaload, 1) := by decide +kernel
theorem dX11_laysView_152 : decode cX11_laysView 152 = .ok (.iconst 1, 1) := by decide +kernel
theorem dX11_laysView_153 : decode cX11_laysView 153 = .ok (.if_icmp .ne 9, 3) := by decide +kernel
theorem dX11_laysView_156 : decode cX11_laysView 156 = .ok (.ldc2_w 271, 3) := by decide +kernel
theorem dX11_laysView_159 : decode cX11_laysView 159 = .ok (.goto 6, 3) := by decide +kernel
theorem dX11_laysView_162 : decode cX11_laysView 162 = .ok (.ldc2_w 273, 3) := by decide +kernel
theorem dX11_laysView_165 : decode cX11_laysView 165 = .ok (.invokevirtual 244, 3) := by decide +kernel
theorem dX11_laysView_168 : decode cX11_laysView 168 = .ok (.aload_n 0, 1) := by decide +kernel
theorem dX11_laysView_169 : decode cX11_laysView 169 = .ok (.bipush 59, 2) := by decide +kernel
theorem dX11_laysView_171 : decode cX11_laysView 171 = .ok (.invokevirtual 241, 3) := by decide +kernel
theorem dX11_laysView_174 : decode cX11_laysView 174 = .ok (.iconst 0, 1) := by decide +kernel
theorem dX11_laysView_175 : decode cX11_laysView 175 = .ok (.istore_n 2, 1) := by decide +kernel
theorem dX11_laysView_176 : decode cX11_laysView 176 = .ok (.iload_n 2, 1) := by decide +kernel
theorem dX11_laysView_177 : decode cX11_laysView 177 = .ok (.aload_n 0, 1) := by decide +kernel
theorem dX11_laysView_178 : decode cX11_laysView 178 = .ok (.getfield 8, 3) := by decide +kernel
theorem dX11_laysView_181 : decode cX11_laysView 181 = .ok (.bipush 9, 2) := by decide +kernel
theorem dX11_laysView_183 : decode cX11_laysView 183 = .ok (.iaload, 1) := by decide +kernel
theorem dX11_laysView_184 : decode cX11_laysView 184 = .ok (.if_icmp .ge 47, 3) := by decide +kernel
theorem dX11_laysView_187 : decode cX11_laysView 187 = .ok (.aload_n 0, 1) := by decide +kernel
theorem dX11_laysView_188 : decode cX11_laysView 188 = .ok (.ldc2_w 275, 3) := by decide +kernel
theorem dX11_laysView_191 : decode cX11_laysView 191 = .ok (.aload_n 0, 1) := by decide +kernel
theorem dX11_laysView_192 : decode cX11_laysView 192 = .ok (.getfield 8, 3) := by decide +kernel
theorem dX11_laysView_195 : decode cX11_laysView 195 = .ok (.iload_n 2, 1) := by decide +kernel
theorem dX11_laysView_196 : decode cX11_laysView 196 = .ok (.invokestatic 144, 3) := by decide +kernel
theorem dX11_laysView_199 : decode cX11_laysView 199 = .ok (.iaload, 1) := by decide +kernel
theorem dX11_laysView_200 : decode cX11_laysView 200 = .ok (.aload_n 0, 1) := by decide +kernel
theorem dX11_laysView_201 : decode cX11_laysView 201 = .ok (.getfield 8, 3) := by decide +kernel
theorem dX11_laysView_204 : decode cX11_laysView 204 = .ok (.iload_n 2, 1) := by decide +kernel
theorem dX11_laysView_205 : decode cX11_laysView 205 = .ok (.invokestatic 144, 3) := by decide +kernel
theorem dX11_laysView_208 : decode cX11_laysView 208 = .ok (.iconst 1, 1) := by decide +kernel
theorem dX11_laysView_209 : decode cX11_laysView 209 = .ok (.iadd, 1) := by decide +kernel
theorem dX11_laysView_210 : decode cX11_laysView 210 = .ok (.iaload, 1) := by decide +kernel
theorem dX11_laysView_211 : decode cX11_laysView 211 = .ok (.aload_n 0, 1) := by decide +kernel
theorem dX11_laysView_212 : decode cX11_laysView 212 = .ok (.getfield 8, 3) := by decide +kernel
theorem dX11_laysView_215 : decode cX11_laysView 215 = .ok (.iload_n 2, 1) := by decide +kernel
theorem dX11_laysView_216 : decode cX11_laysView 216 = .ok (.invokestatic 144, 3) := by decide +kernel
theorem dX11_laysView_219 : decode cX11_laysView 219 = .ok (.iconst 2, 1) := by decide +kernel
theorem dX11_laysView_220 : decode cX11_laysView 220 = .ok (.iadd, 1) := by decide +kernel
theorem dX11_laysView_221 : decode cX11_laysView 221 = .ok (.iaload, 1) := by decide +kernel
theorem dX11_laysView_222 : decode cX11_laysView 222 = .ok (.invokevirtual 253, 3) := by decide +kernel
theorem dX11_laysView_225 : decode cX11_laysView 225 = .ok (.iinc 2 1, 3) := by decide +kernel
theorem dX11_laysView_228 : decode cX11_laysView 228 = .ok (.goto (-52), 3) := by decide +kernel
theorem dX11_laysView_231 : decode cX11_laysView 231 = .ok (.return_, 1) := by decide +kernel
theorem dX11_laysView_232 : decode cX11_laysView 232 = .ok (.aload_n 0, 1) := by decide +kernel
theorem dX11_laysView_233 : decode cX11_laysView 233 = .ok (.ldc2_w 277, 3) := by decide +kernel
theorem dX11_laysView_236 : decode cX11_laysView 236 = .ok (.aload_n 0, 1) := by decide +kernel
theorem dX11_laysView_237 : decode cX11_laysView 237 = .ok (.iconst 0, 1) := by decide +kernel
theorem dX11_laysView_238 : decode cX11_laysView 238 = .ok (.aload_n 0, 1) := by decide +kernel
theorem dX11_laysView_239 : decode cX11_laysView 239 = .ok (.getfield 167, 3) := by decide +kernel
theorem dX11_laysView_242 : decode cX11_laysView 242 = .ok (.invokevirtual 116, 3) := by decide +kernel
theorem dX11_laysView_245 : decode cX11_laysView 245 = .ok (.aload_n 0, 1) := by decide +kernel
theorem dX11_laysView_246 : decode cX11_laysView 246 = .ok (.iconst 0, 1) := by decide +kernel
theorem dX11_laysView_247 : decode cX11_laysView 247 = .ok (.aload_n 0, 1) := by decide +kernel
theorem dX11_laysView_248 : decode cX11_laysView 248 = .ok (.getfield 167, 3) := by decide +kernel
theorem dX11_laysView_251 : decode cX11_laysView 251 = .ok (.invokevirtual 119, 3) := by decide +kernel
theorem dX11_laysView_254 : decode cX11_laysView 254 = .ok (.iconst (-1), 1) := by decide +kernel
theorem dX11_laysView_255 : decode cX11_laysView 255 = .ok (.invokevirtual 253, 3) := by decide +kernel
theorem dX11_laysView_258 : decode cX11_laysView 258 = .ok (.aload_n 0, 1) := by decide +kernel
theorem dX11_laysView_259 : decode cX11_laysView 259 = .ok (.ldc2_w 271, 3) := by decide +kernel
theorem dX11_laysView_262 : decode cX11_laysView 262 = .ok (.aload_n 0, 1) := by decide +kernel
theorem dX11_laysView_263 : decode cX11_laysView 263 = .ok (.iconst 0, 1) := by decide +kernel
theorem dX11_laysView_264 : decode cX11_laysView 264 = .ok (.aload_n 0, 1) := by decide +kernel
theorem dX11_laysView_265 : decode cX11_laysView 265 = .ok (.getfield 167, 3) := by decide +kernel
theorem dX11_laysView_268 : decode cX11_laysView 268 = .ok (.invokevirtual 110, 3) := by decide +kernel
theorem dX11_laysView_271 : decode cX11_laysView 271 = .ok (.aload_n 0, 1) := by decide +kernel
theorem dX11_laysView_272 : decode cX11_laysView 272 = .ok (.iconst 0, 1) := by decide +kernel
theorem dX11_laysView_273 : decode cX11_laysView 273 = .ok (.aload_n 0, 1) := by decide +kernel
theorem dX11_laysView_274 : decode cX11_laysView 274 = .ok (.getfield 167, 3) := by decide +kernel
theorem dX11_laysView_277 : decode cX11_laysView 277 = .ok (.invokevirtual 107, 3) := by decide +kernel
theorem dX11_laysView_280 : decode cX11_laysView 280 = .ok (.iadd, 1) := by decide +kernel
theorem dX11_laysView_281 : decode cX11_laysView 281 = .ok (.aload_n 0, 1) := by decide +kernel
theorem dX11_laysView_282 : decode cX11_laysView 282 = .ok (.iconst 0, 1) := by decide +kernel
theorem dX11_laysView_283 : decode cX11_laysView 283 = .ok (.aload_n 0, 1) := by decide +kernel
theorem dX11_laysView_284 : decode cX11_laysView 284 = .ok (.getfield 167, 3) := by decide +kernel
theorem dX11_laysView_287 : decode cX11_laysView 287 = .ok (.invokevirtual 122, 3) := by decide +kernel
theorem dX11_laysView_290 : decode cX11_laysView 290 = .ok (.iconst (-1), 1) := by decide +kernel
theorem dX11_laysView_291 : decode cX11_laysView 291 = .ok (.invokevirtual 253, 3) := by decide +kernel
theorem dX11_laysView_294 : decode cX11_laysView 294 = .ok (.aload_n 0, 1) := by decide +kernel
theorem dX11_laysView_295 : decode cX11_laysView 295 = .ok (.ldc2_w 279, 3) := by decide +kernel
theorem dX11_laysView_298 : decode cX11_laysView 298 = .ok (.aload_n 0, 1) := by decide +kernel
theorem dX11_laysView_299 : decode cX11_laysView 299 = .ok (.iconst 0, 1) := by decide +kernel
theorem dX11_laysView_300 : decode cX11_laysView 300 = .ok (.aload_n 0, 1) := by decide +kernel
theorem dX11_laysView_301 : decode cX11_laysView 301 = .ok (.getfield 167, 3) := by decide +kernel
theorem dX11_laysView_304 : decode cX11_laysView 304 = .ok (.invokevirtual 48, 3) := by decide +kernel
theorem dX11_laysView_307 : decode cX11_laysView 307 = .ok (.aload_n 0, 1) := by decide +kernel
theorem dX11_laysView_308 : decode cX11_laysView 308 = .ok (.getfield 151, 3) := by decide +kernel
theorem dX11_laysView_311 : decode cX11_laysView 311 = .ok (.iconst (-1), 1) := by decide +kernel
theorem dX11_laysView_312 : decode cX11_laysView 312 = .ok (.invokevirtual 253, 3) := by decide +kernel
theorem dX11_laysView_315 : decode cX11_laysView 315 = .ok (.aload_n 0, 1) := by decide +kernel
theorem dX11_laysView_316 : decode cX11_laysView 316 = .ok (.ldc2_w 281, 3) := by decide +kernel
theorem dX11_laysView_319 : decode cX11_laysView 319 = .ok (.aload_n 0, 1) := by decide +kernel
theorem dX11_laysView_320 : decode cX11_laysView 320 = .ok (.iconst 0, 1) := by decide +kernel
theorem dX11_laysView_321 : decode cX11_laysView 321 = .ok (.aload_n 0, 1) := by decide +kernel
theorem dX11_laysView_322 : decode cX11_laysView 322 = .ok (.getfield 167, 3) := by decide +kernel
theorem dX11_laysView_325 : decode cX11_laysView 325 = .ok (.invokevirtual 56, 3) := by decide +kernel
theorem dX11_laysView_328 : decode cX11_laysView 328 = .ok (.aload_n 0, 1) := by decide +kernel
theorem dX11_laysView_329 : decode cX11_laysView 329 = .ok (.getfield 154, 3) := by decide +kernel
theorem dX11_laysView_332 : decode cX11_laysView 332 = .ok (.iconst (-1), 1) := by decide +kernel
theorem dX11_laysView_333 : decode cX11_laysView 333 = .ok (.invokevirtual 253, 3) := by decide +kernel
theorem dX11_laysView_336 : decode cX11_laysView 336 = .ok (.aload_n 0, 1) := by decide +kernel
theorem dX11_laysView_337 : decode cX11_laysView 337 = .ok (.ldc2_w 283, 3) := by decide +kernel
theorem dX11_laysView_340 : decode cX11_laysView 340 = .ok (.invokevirtual 244, 3) := by decide +kernel
theorem dX11_laysView_343 : decode cX11_laysView 343 = .ok (.aload_n 0, 1) := by decide +kernel
theorem dX11_laysView_344 : decode cX11_laysView 344 = .ok (.iconst 0, 1) := by decide +kernel
theorem dX11_laysView_345 : decode cX11_laysView 345 = .ok (.aload_n 0, 1) := by decide +kernel
theorem dX11_laysView_346 : decode cX11_laysView 346 = .ok (.getfield 167, 3) := by decide +kernel
theorem dX11_laysView_349 : decode cX11_laysView 349 = .ok (.invokevirtual 91, 3) := by decide +kernel
theorem dX11_laysView_352 : decode cX11_laysView 352 = .ok (.istore_n 2, 1) := by decide +kernel
theorem dX11_laysView_353 : decode cX11_laysView 353 = .ok (.aload_n 0, 1) := by decide +kernel
theorem dX11_laysView_354 : decode cX11_laysView 354 = .ok (.iload_n 2, 1) := by decide +kernel
theorem dX11_laysView_355 : decode cX11_laysView 355 = .ok (.invokevirtual 248, 3) := by decide +kernel
theorem dX11_laysView_358 : decode cX11_laysView 358 = .ok (.aload_n 0, 1) := by decide +kernel
theorem dX11_laysView_359 : decode cX11_laysView 359 = .ok (.iconst 0, 1) := by decide +kernel
theorem dX11_laysView_360 : decode cX11_laysView 360 = .ok (.aload_n 0, 1) := by decide +kernel
theorem dX11_laysView_361 : decode cX11_laysView 361 = .ok (.getfield 167, 3) := by decide +kernel
theorem dX11_laysView_364 : decode cX11_laysView 364 = .ok (.invokevirtual 94, 3) := by decide +kernel
theorem dX11_laysView_367 : decode cX11_laysView 367 = .ok (.iconst 0, 1) := by decide +kernel
theorem dX11_laysView_368 : decode cX11_laysView 368 = .ok (.istore_n 3, 1) := by decide +kernel
theorem dX11_laysView_369 : decode cX11_laysView 369 = .ok (.iload_n 3, 1) := by decide +kernel
theorem dX11_laysView_370 : decode cX11_laysView 370 = .ok (.iload_n 2, 1) := by decide +kernel
theorem dX11_laysView_371 : decode cX11_laysView 371 = .ok (.if_icmp .ge 19, 3) := by decide +kernel
theorem dX11_laysView_374 : decode cX11_laysView 374 = .ok (.aload_n 0, 1) := by decide +kernel
theorem dX11_laysView_375 : decode cX11_laysView 375 = .ok (.aload_n 0, 1) := by decide +kernel
theorem dX11_laysView_376 : decode cX11_laysView 376 = .ok (.getfield 25, 3) := by decide +kernel
theorem dX11_laysView_379 : decode cX11_laysView 379 = .ok (.iload_n 3, 1) := by decide +kernel
theorem dX11_laysView_380 : decode cX11_laysView 380 = .ok (.iaload, 1) := by decide +kernel
theorem dX11_laysView_381 : decode cX11_laysView 381 = .ok (.invokevirtual 248, 3) := by decide +kernel
theorem dX11_laysView_384 : decode cX11_laysView 384 = .ok (.iinc 3 1, 3) := by decide +kernel
theorem dX11_laysView_387 : decode cX11_laysView 387 = .ok (.goto (-18), 3) := by decide +kernel
theorem dX11_laysView_390 : decode cX11_laysView 390 = .ok (.aload_n 0, 1) := by decide +kernel
theorem dX11_laysView_391 : decode cX11_laysView 391 = .ok (.bipush 59, 2) := by decide +kernel
theorem dX11_laysView_393 : decode cX11_laysView 393 = .ok (.invokevirtual 241, 3) := by decide +kernel
theorem dX11_laysView_396 : decode cX11_laysView 396 = .ok (.return_, 1) := by decide +kernel
theorem dX11_view_0 : decode cX11_view 0 = .ok (.iload_n 1, 1) := by decide +kernel
theorem dX11_view_1 : decode cX11_view 1 = .ok (.iconst 0, 1) := by decide +kernel
theorem dX11_view_2 : decode cX11_view 2 = .ok (.iconst 1, 1) := by decide +kernel
theorem dX11_view_3 : decode cX11_view 3 = .ok (.invokestatic 52, 3) := by decide +kernel
theorem dX11_view_6 : decode cX11_view 6 = .ok (.ifCond .ne 5, 3) := by decide +kernel
theorem dX11_view_9 : decode cX11_view 9 = .ok (.iconst (-1), 1) := by decide +kernel
theorem dX11_view_10 : decode cX11_view 10 = .ok (.ireturn, 1) := by decide +kernel
theorem dX11_view_11 : decode cX11_view 11 = .ok (.aload_n 0, 1) := by decide +kernel
theorem dX11_view_12 : decode cX11_view 12 = .ok (.iload_n 1, 1) := by decide +kernel
theorem dX11_view_13 : decode cX11_view 13 = .ok (.invokevirtual 285, 3) := by decide +kernel
theorem dX11_view_16 : decode cX11_view 16 = .ok (.iload_n 2, 1) := by decide +kernel
theorem dX11_view_17 : decode cX11_view 17 = .ok (.iconst (-1), 1) := by decide +kernel
theorem dX11_view_18 : decode cX11_view 18 = .ok (.if_icmp .ne 10, 3) := by decide +kernel
theorem dX11_view_21 : decode cX11_view 21 = .ok (.aload_n 0, 1) := by decide +kernel
theorem dX11_view_22 : decode cX11_view 22 = .ok (.getfield 234, 3) := by decide +kernel
theorem dX11_view_25 : decode cX11_view 25 = .ok (.goto 27, 3) := by decide +kernel
theorem dX11_view_28 : decode cX11_view 28 = .ok (.iload_n 2, 1) := by decide +kernel
theorem dX11_view_29 : decode cX11_view 29 = .ok (.iconst 0, 1) := by decide +kernel
theorem dX11_view_30 : decode cX11_view 30 = .ok (.aload_n 0, 1) := by decide +kernel
theorem dX11_view_31 : decode cX11_view 31 = .ok (.getfield 234, 3) := by decide +kernel
theorem dX11_view_34 : decode cX11_view 34 = .ok (.iconst 1, 1) := by decide +kernel
theorem dX11_view_35 : decode cX11_view 35 = .ok (.isub, 1) := by decide +kernel
theorem dX11_view_36 : decode cX11_view 36 = .ok (.invokestatic 52, 3) := by decide +kernel
theorem dX11_view_39 : decode cX11_view 39 = .ok (.ifCond .eq 12, 3) := by decide +kernel
theorem dX11_view_42 : decode cX11_view 42 = .ok (.aload_n 0, 1) := by decide +kernel
theorem dX11_view_43 : decode cX11_view 43 = .ok (.getfield 37, 3) := by decide +kernel
theorem dX11_view_46 : decode cX11_view 46 = .ok (.iload_n 2, 1) := by decide +kernel
theorem dX11_view_47 : decode cX11_view 47 = .ok (.iaload, 1) := by decide +kernel
theorem dX11_view_48 : decode cX11_view 48 = .ok (.goto 4, 3) := by decide +kernel
theorem dX11_view_51 : decode cX11_view 51 = .ok (.iconst (-1), 1) := by decide +kernel
theorem dX11_view_52 : decode cX11_view 52 = .ok (.ireturn, 1) := by decide +kernel
theorem dX11_agree_0 : decode cX11_agree 0 = .ok (.aload_n 0, 1) := by decide +kernel
theorem dX11_agree_1 : decode cX11_agree 1 = .ok (.getfield 228, 3) := by decide +kernel
theorem dX11_agree_4 : decode cX11_agree 4 = .ok (.istore_n 1, 1) := by decide +kernel
theorem dX11_agree_5 : decode cX11_agree 5 = .ok (.aload_n 0, 1) := by decide +kernel
theorem dX11_agree_6 : decode cX11_agree 6 = .ok (.iconst 0, 1) := by decide +kernel
theorem dX11_agree_7 : decode cX11_agree 7 = .ok (.putfield 228, 3) := by decide +kernel
theorem dX11_agree_10 : decode cX11_agree 10 = .ok (.aload_n 0, 1) := by decide +kernel
theorem dX11_agree_11 : decode cX11_agree 11 = .ok (.iconst 1, 1) := by decide +kernel
theorem dX11_agree_12 : decode cX11_agree 12 = .ok (.invokevirtual 285, 3) := by decide +kernel
theorem dX11_agree_15 : decode cX11_agree 15 = .ok (.iconst 0, 1) := by decide +kernel
theorem dX11_agree_16 : decode cX11_agree 16 = .ok (.istore_n 2, 1) := by decide +kernel
theorem dX11_agree_17 : decode cX11_agree 17 = .ok (.iload_n 2, 1) := by decide +kernel
theorem dX11_agree_18 : decode cX11_agree 18 = .ok (.iload_n 1, 1) := by decide +kernel
theorem dX11_agree_19 : decode cX11_agree 19 = .ok (.if_icmp .lt 11, 3) := by decide +kernel
theorem dX11_agree_22 : decode cX11_agree 22 = .ok (.iload_n 2, 1) := by decide +kernel
theorem dX11_agree_23 : decode cX11_agree 23 = .ok (.aload_n 0, 1) := by decide +kernel
theorem dX11_agree_24 : decode cX11_agree 24 = .ok (.getfield 234, 3) := by decide +kernel
theorem dX11_agree_27 : decode cX11_agree 27 = .ok (.if_icmp .ge 39, 3) := by decide +kernel
theorem dX11_agree_30 : decode cX11_agree 30 = .ok (.iload_n 2, 1) := by decide +kernel
theorem dX11_agree_31 : decode cX11_agree 31 = .ok (.iload_n 1, 1) := by decide +kernel
theorem dX11_agree_32 : decode cX11_agree 32 = .ok (.if_icmp .ge 26, 3) := by decide +kernel
theorem dX11_agree_35 : decode cX11_agree 35 = .ok (.iload_n 2, 1) := by decide +kernel
theorem dX11_agree_36 : decode cX11_agree 36 = .ok (.aload_n 0, 1) := by decide +kernel
theorem dX11_agree_37 : decode cX11_agree 37 = .ok (.getfield 234, 3) := by decide +kernel
theorem dX11_agree_40 : decode cX11_agree 40 = .ok (.if_icmp .ge 18, 3) := by decide +kernel
theorem dX11_agree_43 : decode cX11_agree 43 = .ok (.aload_n 0, 1) := by decide +kernel
theorem dX11_agree_44 : decode cX11_agree 44 = .ok (.getfield 14, 3) := by decide +kernel
theorem dX11_agree_47 : decode cX11_agree 47 = .ok (.iload_n 2, 1) := by decide +kernel
theorem dX11_agree_48 : decode cX11_agree 48 = .ok (.iaload, 1) := by decide +kernel
theorem dX11_agree_49 : decode cX11_agree 49 = .ok (.aload_n 0, 1) := by decide +kernel
theorem dX11_agree_50 : decode cX11_agree 50 = .ok (.getfield 37, 3) := by decide +kernel
theorem dX11_agree_53 : decode cX11_agree 53 = .ok (.iload_n 2, 1) := by decide +kernel
theorem dX11_agree_54 : decode cX11_agree 54 = .ok (.iaload, 1) := by decide +kernel
theorem dX11_agree_55 : decode cX11_agree 55 = .ok (.if_icmp .eq 5, 3) := by decide +kernel
theorem dX11_agree_58 : decode cX11_agree 58 = .ok (.iload_n 2, 1) := by decide +kernel
theorem dX11_agree_59 : decode cX11_agree 59 = .ok (.ireturn, 1) := by decide +kernel
theorem dX11_agree_60 : decode cX11_agree 60 = .ok (.iinc 2 1, 3) := by decide +kernel
theorem dX11_agree_63 : decode cX11_agree 63 = .ok (.goto (-46), 3) := by decide +kernel
theorem dX11_agree_66 : decode cX11_agree 66 = .ok (.iconst (-1), 1) := by decide +kernel
theorem dX11_agree_67 : decode cX11_agree 67 = .ok (.ireturn, 1) := by decide +kernel
theorem dX11_feed_0 : decode cX11_feed 0 = .ok (.aload_n 0, 1) := by decide +kernel
theorem dX11_feed_1 : decode cX11_feed 1 = .ok (.getfield 228, 3) := by decide +kernel
theorem dX11_feed_4 : decode cX11_feed 4 = .ok (.bipush 20, 2) := by decide +kernel
theorem dX11_feed_6 : decode cX11_feed 6 = .ok (.iadd, 1) := by decide +kernel
theorem dX11_feed_7 : decode cX11_feed 7 = .ok (.sipush 300, 3) := by decide +kernel
theorem dX11_feed_10 : decode cX11_feed 10 = .ok (.if_icmp .le 5, 3) := by decide +kernel
theorem dX11_feed_13 : decode cX11_feed 13 = .ok (.iconst (-1), 1) := by decide +kernel
theorem dX11_feed_14 : decode cX11_feed 14 = .ok (.ireturn, 1) := by decide +kernel
theorem dX11_feed_15 : decode cX11_feed 15 = .ok (.iconst 0, 1) := by decide +kernel
theorem dX11_feed_16 : decode cX11_feed 16 = .ok (.istore 6, 2) := by decide +kernel
theorem dX11_feed_18 : decode cX11_feed 18 = .ok (.iload 6, 2) := by decide +kernel
theorem dX11_feed_20 : decode cX11_feed 20 = .ok (.bipush 20, 2) := by decide +kernel
theorem dX11_feed_22 : decode cX11_feed 22 = .ok (.if_icmp .ge 86, 3) := by decide +kernel
theorem dX11_feed_25 : decode cX11_feed 25 = .ok (.iload 6, 2) := by decide +kernel
theorem dX11_feed_27 : decode cX11_feed 27 = .ok (.iconst 4, 1) := by decide +kernel
theorem dX11_feed_28 : decode cX11_feed 28 = .ok (.if_icmp .ge 7, 3) := by decide +kernel
theorem dX11_feed_31 : decode cX11_feed 31 = .ok (.iload_n 1, 1) := by decide +kernel
theorem dX11_feed_32 : decode cX11_feed 32 = .ok (.goto 39, 3) := by decide +kernel
theorem dX11_feed_35 : decode cX11_feed 35 = .ok (.iload 6, 2) := by decide +kernel
theorem dX11_feed_37 : decode cX11_feed 37 = .ok (.bipush 8, 2) := by decide +kernel
theorem dX11_feed_39 : decode cX11_feed 39 = .ok (.if_icmp .ge 7, 3) := by decide +kernel
theorem dX11_feed_42 : decode cX11_feed 42 = .ok (.iload_n 2, 1) := by decide +kernel
theorem dX11_feed_43 : decode cX11_feed 43 = .ok (.goto 28, 3) := by decide +kernel
theorem dX11_feed_46 : decode cX11_feed 46 = .ok (.iload 6, 2) := by decide +kernel
theorem dX11_feed_48 : decode cX11_feed 48 = .ok (.bipush 12, 2) := by decide +kernel
theorem dX11_feed_50 : decode cX11_feed 50 = .ok (.if_icmp .ge 7, 3) := by decide +kernel
theorem dX11_feed_53 : decode cX11_feed 53 = .ok (.iload_n 3, 1) := by decide +kernel
theorem dX11_feed_54 : decode cX11_feed 54 = .ok (.goto 17, 3) := by decide +kernel
theorem dX11_feed_57 : decode cX11_feed 57 = .ok (.iload 6, 2) := by decide +kernel
theorem dX11_feed_59 : decode cX11_feed 59 = .ok (.bipush 16, 2) := by decide +kernel
theorem dX11_feed_61 : decode cX11_feed 61 = .ok (.if_icmp .ge 8, 3) := by decide +kernel
theorem dX11_feed_64 : decode cX11_feed 64 = .ok (.iload 4, 2) := by decide +kernel
theorem dX11_feed_66 : decode cX11_feed 66 = .ok (.goto 5, 3) := by decide +kernel
theorem dX11_feed_69 : decode cX11_feed 69 = .ok (.iload 5, 2) := by decide +kernel
theorem dX11_feed_71 : decode cX11_feed 71 = .ok (.istore 7, 2) := by decide +kernel
theorem dX11_feed_73 : decode cX11_feed 73 = .ok (.aload_n 0, 1) := by decide +kernel
theorem dX11_feed_74 : decode cX11_feed 74 = .ok (.getfield 14, 3) := by decide +kernel
theorem dX11_feed_77 : decode cX11_feed 77 = .ok (.aload_n 0, 1) := by decide +kernel
theorem dX11_feed_78 : decode cX11_feed 78 = .ok (.getfield 228, 3) := by decide +kernel
theorem dX11_feed_81 : decode cX11_feed 81 = .ok (.iload 6, 2) := by decide +kernel
theorem dX11_feed_83 : decode cX11_feed 83 = .ok (.iadd, 1) := by decide +kernel
theorem dX11_feed_84 : decode cX11_feed 84 = .ok (.iload 7, 2) := by decide +kernel
theorem dX11_feed_86 : decode cX11_feed 86 = .ok (.bipush 24, 2) := by decide +kernel
theorem dX11_feed_88 : decode cX11_feed 88 = .ok (.bipush 8, 2) := by decide +kernel
theorem dX11_feed_90 : decode cX11_feed 90 = .ok (.iload 6, 2) := by decide +kernel
theorem dX11_feed_92 : decode cX11_feed 92 = .ok (.iconst 3, 1) := by decide +kernel
theorem dX11_feed_93 : decode cX11_feed 93 = .ok (.iand, 1) := by decide +kernel
theorem dX11_feed_94 : decode cX11_feed 94 = .ok (.imul, 1) := by decide +kernel
theorem dX11_feed_95 : decode cX11_feed 95 = .ok (.isub, 1) := by decide +kernel
theorem dX11_feed_96 : decode cX11_feed 96 = .ok (.ishr, 1) := by decide +kernel
theorem dX11_feed_97 : decode cX11_feed 97 = .ok (.sipush 255, 3) := by decide +kernel
theorem dX11_feed_100 : decode cX11_feed 100 = .ok (.iand, 1) := by decide +kernel
theorem dX11_feed_101 : decode cX11_feed 101 = .ok (.iastore, 1) := by decide +kernel
theorem dX11_feed_102 : decode cX11_feed 102 = .ok (.iinc 6 1, 3) := by decide +kernel
theorem dX11_feed_105 : decode cX11_feed 105 = .ok (.goto (-87), 3) := by decide +kernel
theorem dX11_feed_108 : decode cX11_feed 108 = .ok (.aload_n 0, 1) := by decide +kernel
theorem dX11_feed_109 : decode cX11_feed 109 = .ok (.dup, 1) := by decide +kernel
theorem dX11_feed_110 : decode cX11_feed 110 = .ok (.getfield 228, 3) := by decide +kernel
theorem dX11_feed_113 : decode cX11_feed 113 = .ok (.bipush 20, 2) := by decide +kernel
theorem dX11_feed_115 : decode cX11_feed 115 = .ok (.iadd, 1) := by decide +kernel
theorem dX11_feed_116 : decode cX11_feed 116 = .ok (.putfield 228, 3) := by decide +kernel
theorem dX11_feed_119 : decode cX11_feed 119 = .ok (.aload_n 0, 1) := by decide +kernel
theorem dX11_feed_120 : decode cX11_feed 120 = .ok (.getfield 228, 3) := by decide +kernel
theorem dX11_feed_123 : decode cX11_feed 123 = .ok (.ireturn, 1) := by decide +kernel
theorem dX11_end_0 : decode cX11_end 0 = .ok (.iload_n 1, 1) := by decide +kernel
theorem dX11_end_1 : decode cX11_end 1 = .ok (.iconst 0, 1) := by decide +kernel
theorem dX11_end_2 : decode cX11_end 2 = .ok (.aload_n 0, 1) := by decide +kernel
theorem dX11_end_3 : decode cX11_end 3 = .ok (.getfield 228, 3) := by decide +kernel
theorem dX11_end_6 : decode cX11_end 6 = .ok (.invokestatic 52, 3) := by decide +kernel
theorem dX11_end_9 : decode cX11_end 9 = .ok (.ifCond .ne 5, 3) := by decide +kernel
theorem dX11_end_12 : decode cX11_end 12 = .ok (.iconst (-1), 1) := by decide +kernel
theorem dX11_end_13 : decode cX11_end 13 = .ok (.ireturn, 1) := by decide +kernel
theorem dX11_end_14 : decode cX11_end 14 = .ok (.aload_n 0, 1) := by decide +kernel
theorem dX11_end_15 : decode cX11_end 15 = .ok (.iload_n 1, 1) := by decide +kernel
theorem dX11_end_16 : decode cX11_end 16 = .ok (.putfield 228, 3) := by decide +kernel
theorem dX11_end_19 : decode cX11_end 19 = .ok (.iload_n 1, 1) := by decide +kernel
theorem dX11_end_20 : decode cX11_end 20 = .ok (.ireturn, 1) := by decide +kernel
theorem dX11_fault_0 : decode cX11_fault 0 = .ok (.iload_n 1, 1) := by decide +kernel
theorem dX11_fault_1 : decode cX11_fault 1 = .ok (.ifCond .ne 10, 3) := by decide +kernel
theorem dX11_fault_4 : decode cX11_fault 4 = .ok (.aload_n 0, 1) := by decide +kernel
theorem dX11_fault_5 : decode cX11_fault 5 = .ok (.getfield 288, 3) := by decide +kernel
theorem dX11_fault_8 : decode cX11_fault 8 = .ok (.goto 16, 3) := by decide +kernel
theorem dX11_fault_11 : decode cX11_fault 11 = .ok (.iload_n 1, 1) := by decide +kernel
theorem dX11_fault_12 : decode cX11_fault 12 = .ok (.iconst 1, 1) := by decide +kernel
theorem dX11_fault_13 : decode cX11_fault 13 = .ok (.if_icmp .ne 10, 3) := by decide +kernel
theorem dX11_fault_16 : decode cX11_fault 16 = .ok (.aload_n 0, 1) := by decide +kernel
theorem dX11_fault_17 : decode cX11_fault 17 = .ok (.getfield 21, 3) := by decide +kernel
theorem dX11_fault_20 : decode cX11_fault 20 = .ok (.goto 4, 3) := by decide +kernel
theorem dX11_fault_23 : decode cX11_fault 23 = .ok (.iconst (-1), 1) := by decide +kernel
theorem dX11_fault_24 : decode cX11_fault 24 = .ok (.ireturn, 1) := by decide +kernel
theorem dX11_byteAt_0 : decode cX11_byteAt 0 = .ok (.iload_n 1, 1) := by decide +kernel
theorem dX11_byteAt_1 : decode cX11_byteAt 1 = .ok (.aload_n 0, 1) := by decide +kernel
theorem dX11_byteAt_2 : decode cX11_byteAt 2 = .ok (.getfield 291, 3) := by decide +kernel
theorem dX11_byteAt_5 : decode cX11_byteAt 5 = .ok (.if_icmp .ge 12, 3) := by decide +kernel
theorem dX11_byteAt_8 : decode cX11_byteAt 8 = .ok (.aload_n 0, 1) := by decide +kernel
theorem dX11_byteAt_9 : decode cX11_byteAt 9 = .ok (.getfield 14, 3) := by decide +kernel
theorem dX11_byteAt_12 : decode cX11_byteAt 12 = .ok (.iload_n 1, 1) := by decide +kernel
theorem dX11_byteAt_13 : decode cX11_byteAt 13 = .ok (.iaload, 1) := by decide +kernel
theorem dX11_byteAt_14 : decode cX11_byteAt 14 = .ok (.goto 4, 3) := by decide +kernel
theorem dX11_byteAt_17 : decode cX11_byteAt 17 = .ok (.iconst (-1), 1) := by decide +kernel
theorem dX11_byteAt_18 : decode cX11_byteAt 18 = .ok (.ireturn, 1) := by decide +kernel
theorem dX11_isLetter_0 : decode cX11_isLetter 0 = .ok (.iload_n 0, 1) := by decide +kernel
theorem dX11_isLetter_1 : decode cX11_isLetter 1 = .ok (.bipush 97, 2) := by decide +kernel
theorem dX11_isLetter_3 : decode cX11_isLetter 3 = .ok (.if_icmp .lt 13, 3) := by decide +kernel
theorem dX11_isLetter_6 : decode cX11_isLetter 6 = .ok (.iload_n 0, 1) := by decide +kernel
theorem dX11_isLetter_7 : decode cX11_isLetter 7 = .ok (.bipush 122, 2) := by decide +kernel
theorem dX11_isLetter_9 : decode cX11_isLetter 9 = .ok (.if_icmp .gt 7, 3) := by decide +kernel
theorem dX11_isLetter_12 : decode cX11_isLetter 12 = .ok (.iconst 1, 1) := by decide +kernel
theorem dX11_isLetter_13 : decode cX11_isLetter 13 = .ok (.goto 4, 3) := by decide +kernel
theorem dX11_isLetter_16 : decode cX11_isLetter 16 = .ok (.iconst 0, 1) := by decide +kernel
theorem dX11_isLetter_17 : decode cX11_isLetter 17 = .ok (.ireturn, 1) := by decide +kernel
theorem dX11_isDigit_0 : decode cX11_isDigit 0 = .ok (.iload_n 0, 1) := by decide +kernel
theorem dX11_isDigit_1 : decode cX11_isDigit 1 = .ok (.bipush 48, 2) := by decide +kernel
theorem dX11_isDigit_3 : decode cX11_isDigit 3 = .ok (.if_icmp .lt 13, 3) := by decide +kernel
theorem dX11_isDigit_6 : decode cX11_isDigit 6 = .ok (.iload_n 0, 1) := by decide +kernel
theorem dX11_isDigit_7 : decode cX11_isDigit 7 = .ok (.bipush 57, 2) := by decide +kernel
theorem dX11_isDigit_9 : decode cX11_isDigit 9 = .ok (.if_icmp .gt 7, 3) := by decide +kernel
theorem dX11_isDigit_12 : decode cX11_isDigit 12 = .ok (.iconst 1, 1) := by decide +kernel
theorem dX11_isDigit_13 : decode cX11_isDigit 13 = .ok (.goto 4, 3) := by decide +kernel
theorem dX11_isDigit_16 : decode cX11_isDigit 16 = .ok (.iconst 0, 1) := by decide +kernel
theorem dX11_isDigit_17 : decode cX11_isDigit 17 = .ok (.ireturn, 1) := by decide +kernel
theorem dX11_takes_0 : decode cX11_takes 0 = .ok (.aload_n 0, 1) := by decide +kernel
theorem dX11_takes_1 : decode cX11_takes 1 = .ok (.aload_n 0, 1) := by decide +kernel
theorem dX11_takes_2 : decode cX11_takes 2 = .ok (.getfield 294, 3) := by decide +kernel
theorem dX11_takes_5 : decode cX11_takes 5 = .ok (.invokevirtual 297, 3) := by decide +kernel
theorem dX11_takes_8 : decode cX11_takes 8 = .ok (.bipush 32, 2) := by decide +kernel
theorem dX11_takes_10 : decode cX11_takes 10 = .ok (.if_icmp .eq 16, 3) := by decide +kernel
theorem dX11_takes_13 : decode cX11_takes 13 = .ok (.aload_n 0, 1) := by decide +kernel
theorem dX11_takes_14 : decode cX11_takes 14 = .ok (.aload_n 0, 1) := by decide +kernel
theorem dX11_takes_15 : decode cX11_takes 15 = .ok (.getfield 294, 3) := by decide +kernel
theorem dX11_takes_18 : decode cX11_takes 18 = .ok (.invokevirtual 297, 3) := by decide +kernel
theorem dX11_takes_21 : decode cX11_takes 21 = .ok (.bipush 10, 2) := by decide +kernel
theorem dX11_takes_23 : decode cX11_takes 23 = .ok (.if_icmp .ne 16, 3) := by decide +kernel
theorem dX11_takes_26 : decode cX11_takes 26 = .ok (.aload_n 0, 1) := by decide +kernel
theorem dX11_takes_27 : decode cX11_takes 27 = .ok (.dup, 1) := by decide +kernel
theorem dX11_takes_28 : decode cX11_takes 28 = .ok (.getfield 294, 3) := by decide +kernel
theorem dX11_takes_31 : decode cX11_takes 31 = .ok (.iconst 1, 1) := by decide +kernel
theorem dX11_takes_32 : decode cX11_takes 32 = .ok (.iadd, 1) := by decide +kernel
theorem dX11_takes_33 : decode cX11_takes 33 = .ok (.putfield 294, 3) := by decide +kernel
theorem dX11_takes_36 : decode cX11_takes 36 = .ok (.goto (-36), 3) := by decide +kernel
theorem dX11_takes_39 : decode cX11_takes 39 = .ok (.aload_n 0, 1) := by decide +kernel
theorem dX11_takes_40 : decode cX11_takes 40 = .ok (.aload_n 0, 1) := by decide +kernel
theorem dX11_takes_41 : decode cX11_takes 41 = .ok (.getfield 294, 3) := by decide +kernel
theorem dX11_takes_44 : decode cX11_takes 44 = .ok (.putfield 300, 3) := by decide +kernel
theorem dX11_takes_47 : decode cX11_takes 47 = .ok (.aload_n 0, 1) := by decide +kernel
theorem dX11_takes_48 : decode cX11_takes 48 = .ok (.aload_n 0, 1) := by decide +kernel
theorem dX11_takes_49 : decode cX11_takes 49 = .ok (.getfield 294, 3) := by decide +kernel
theorem dX11_takes_52 : decode cX11_takes 52 = .ok (.invokevirtual 297, 3) := by decide +kernel
theorem dX11_takes_55 : decode cX11_takes 55 = .ok (.istore_n 1, 1) := by decide +kernel
theorem dX11_takes_56 : decode cX11_takes 56 = .ok (.aload_n 0, 1) := by decide +kernel
theorem dX11_takes_57 : decode cX11_takes 57 = .ok (.lconst 0, 1) := by decide +kernel
theorem dX11_takes_58 : decode cX11_takes 58 = .ok (.putfield 303, 3) := by decide +kernel
theorem dX11_takes_61 : decode cX11_takes 61 = .ok (.iload_n 1, 1) := by decide +kernel
theorem dX11_takes_62 : decode cX11_takes 62 = .ok (.ifCond .ge 11, 3) := by decide +kernel
theorem dX11_takes_65 : decode cX11_takes 65 = .ok (.aload_n 0, 1) := by decide +kernel
theorem dX11_takes_66 : decode cX11_takes 66 = .ok (.iconst 0, 1) := by decide +kernel
theorem dX11_takes_67 : decode cX11_takes 67 = .ok (.putfield 307, 3) := by decide +kernel
theorem dX11_takes_70 : decode cX11_takes 70 = .ok (.goto 244, 3) := by decide +kernel
theorem dX11_takes_73 : decode cX11_takes 73 = .ok (.iload_n 1, 1) := by decide +kernel
theorem dX11_takes_74 : decode cX11_takes 74 = .ok (.invokestatic 310, 3) := by decide +kernel
theorem dX11_takes_77 : decode cX11_takes 77 = .ok (.ifCond .eq 105, 3) := by decide +kernel
theorem dX11_takes_80 : decode cX11_takes 80 = .ok (.aload_n 0, 1) := by decide +kernel
theorem dX11_takes_81 : decode cX11_takes 81 = .ok (.aload_n 0, 1) := by decide +kernel
theorem dX11_takes_82 : decode cX11_takes 82 = .ok (.getfield 294, 3) := by decide +kernel
theorem dX11_takes_85 : decode cX11_takes 85 = .ok (.invokevirtual 297, 3) := by decide +kernel
theorem dX11_takes_88 : decode cX11_takes 88 = .ok (.invokestatic 310, 3) := by decide +kernel
theorem dX11_takes_91 : decode cX11_takes 91 = .ok (.ifCond .eq 65, 3) := by decide +kernel
theorem dX11_takes_94 : decode cX11_takes 94 = .ok (.aload_n 0, 1) := by decide +kernel
theorem dX11_takes_95 : decode cX11_takes 95 = .ok (.aload_n 0, 1) := by decide +kernel
theorem dX11_takes_96 : decode cX11_takes 96 = .ok (.getfield 294, 3) := by decide +kernel
theorem dX11_takes_99 : decode cX11_takes 99 = .ok (.aload_n 0, 1) := by decide +kernel
theorem dX11_takes_100 : decode cX11_takes 100 = .ok (.getfield 300, 3) := by decide +kernel
theorem dX11_takes_103 : decode cX11_takes 103 = .ok (.isub, 1) := by decide +kernel
theorem dX11_takes_104 : decode cX11_takes 104 = .ok (.bipush 8, 2) := by decide +kernel
theorem dX11_takes_106 : decode cX11_takes 106 = .ok (.if_icmp .ge 30, 3) := by decide +kernel
theorem dX11_takes_109 : decode cX11_takes 109 = .ok (.ldc2_w 239, 3) := by decide +kernel
theorem dX11_takes_112 : decode cX11_takes 112 = .ok (.aload_n 0, 1) := by decide +kernel
theorem dX11_takes_113 : decode cX11_takes 113 = .ok (.getfield 303, 3) := by decide +kernel
theorem dX11_takes_116 : decode cX11_takes 116 = .ok (.lmul, 1) := by decide +kernel
theorem dX11_takes_117 : decode cX11_takes 117 = .ok (.aload_n 0, 1) := by decide +kernel
theorem dX11_takes_118 : decode cX11_takes 118 = .ok (.aload_n 0, 1) := by decide +kernel
theorem dX11_takes_119 : decode cX11_takes 119 = .ok (.getfield 294, 3) := by decide +kernel
theorem dX11_takes_122 : decode cX11_takes 122 = .ok (.invokevirtual 297, 3) := by decide +kernel
theorem dX11_takes_125 : decode cX11_takes 125 = .ok (.i2l, 1) := by decide +kernel
theorem dX11_takes_126 : decode cX11_takes 126 = .ok (.ladd, 1) := by decide +kernel
theorem dX11_takes_127 : decode cX11_takes 127 = .ok (.ldc2_w 313, 3) := by decide +kernel
theorem dX11_takes_130 : decode cX11_takes 130 = .ok (.lsub, 1) := by decide +kernel
theorem dX11_takes_131 : decode cX11_takes 131 = .ok (.lconst 1, 1) := by decide +kernel
theorem dX11_takes_132 : decode cX11_takes 132 = .ok (.ladd, 1) := by decide +kernel
theorem dX11_takes_133 : decode cX11_takes 133 = .ok (.goto 7, 3) := by decide +kernel
theorem dX11_takes_136 : decode cX11_takes 136 = .ok (.aload_n 0, 1) := by decide +kernel
theorem dX11_takes_137 : decode cX11_takes 137 = .ok (.getfield 303, 3) := by decide +kernel
theorem dX11_takes_140 : decode cX11_takes 140 = .ok (.putfield 303, 3) := by decide +kernel
theorem dX11_takes_143 : decode cX11_takes 143 = .ok (.aload_n 0, 1) := by decide +kernel
theorem dX11_takes_144 : decode cX11_takes 144 = .ok (.dup, 1) := by decide +kernel
theorem dX11_takes_145 : decode cX11_takes 145 = .ok (.getfield 294, 3) := by decide +kernel
theorem dX11_takes_148 : decode cX11_takes 148 = .ok (.iconst 1, 1) := by decide +kernel
theorem dX11_takes_149 : decode cX11_takes 149 = .ok (.iadd, 1) := by decide +kernel
theorem dX11_takes_150 : decode cX11_takes 150 = .ok (.putfield 294, 3) := by decide +kernel
theorem dX11_takes_153 : decode cX11_takes 153 = .ok (.goto (-73), 3) := by decide +kernel
theorem dX11_takes_156 : decode cX11_takes 156 = .ok (.aload_n 0, 1) := by decide +kernel
theorem dX11_takes_157 : decode cX11_takes 157 = .ok (.aload_n 0, 1) := by decide +kernel
theorem dX11_takes_158 : decode cX11_takes 158 = .ok (.getfield 294, 3) := by decide +kernel
theorem dX11_takes_161 : decode cX11_takes 161 = .ok (.aload_n 0, 1) := by decide +kernel
theorem dX11_takes_162 : decode cX11_takes 162 = .ok (.getfield 300, 3) := by decide +kernel
theorem dX11_takes_165 : decode cX11_takes 165 = .ok (.isub, 1) := by decide +kernel
theorem dX11_takes_166 : decode cX11_takes 166 = .ok (.bipush 8, 2) := by decide +kernel
theorem dX11_takes_168 : decode cX11_takes 168 = .ok (.if_icmp .le 7, 3) := by decide +kernel
theorem dX11_takes_171 : decode cX11_takes 171 = .ok (.iconst 4, 1) := by decide +kernel
theorem dX11_takes_172 : decode cX11_takes 172 = .ok (.goto 4, 3) := by decide +kernel
theorem dX11_takes_175 : decode cX11_takes 175 = .ok (.iconst 1, 1) := by decide +kernel
theorem dX11_takes_176 : decode cX11_takes 176 = .ok (.putfield 307, 3) := by decide +kernel
theorem dX11_takes_179 : decode cX11_takes 179 = .ok (.goto 135, 3) := by decide +kernel
theorem dX11_takes_182 : decode cX11_takes 182 = .ok (.iload_n 1, 1) := by decide +kernel
theorem dX11_takes_183 : decode cX11_takes 183 = .ok (.invokestatic 315, 3) := by decide +kernel
theorem dX11_takes_186 : decode cX11_takes 186 = .ok (.ifCond .eq 103, 3) := by decide +kernel
theorem dX11_takes_189 : decode cX11_takes 189 = .ok (.aload_n 0, 1) := by decide +kernel
theorem dX11_takes_190 : decode cX11_takes 190 = .ok (.aload_n 0, 1) := by decide +kernel
theorem dX11_takes_191 : decode cX11_takes 191 = .ok (.getfield 294, 3) := by decide +kernel
theorem dX11_takes_194 : decode cX11_takes 194 = .ok (.invokevirtual 297, 3) := by decide +kernel
theorem dX11_takes_197 : decode cX11_takes 197 = .ok (.invokestatic 315, 3) := by decide +kernel
theorem dX11_takes_200 : decode cX11_takes 200 = .ok (.ifCond .eq 63, 3) := by decide +kernel
theorem dX11_takes_203 : decode cX11_takes 203 = .ok (.aload_n 0, 1) := by decide +kernel
theorem dX11_takes_204 : decode cX11_takes 204 = .ok (.aload_n 0, 1) := by decide +kernel
theorem dX11_takes_205 : decode cX11_takes 205 = .ok (.getfield 294, 3) := by decide +kernel
theorem dX11_takes_208 : decode cX11_takes 208 = .ok (.aload_n 0, 1) := by decide +kernel
theorem dX11_takes_209 : decode cX11_takes 209 = .ok (.getfield 300, 3) := by decide +kernel
theorem dX11_takes_212 : decode cX11_takes 212 = .ok (.isub, 1) := by decide +kernel
theorem dX11_takes_213 : decode cX11_takes 213 = .ok (.bipush 6, 2) := by decide +kernel
theorem dX11_takes_215 : decode cX11_takes 215 = .ok (.if_icmp .ge 28, 3) := by decide +kernel
theorem dX11_takes_218 : decode cX11_takes 218 = .ok (.ldc2_w 318, 3) := by decide +kernel
theorem dX11_takes_221 : decode cX11_takes 221 = .ok (.aload_n 0, 1) := by decide +kernel
theorem dX11_takes_222 : decode cX11_takes 222 = .ok (.getfield 303, 3) := by decide +kernel
theorem dX11_takes_225 : decode cX11_takes 225 = .ok (.lmul, 1) := by decide +kernel
theorem dX11_takes_226 : decode cX11_takes 226 = .ok (.aload_n 0, 1) := by decide +kernel
theorem dX11_takes_227 : decode cX11_takes 227 = .ok (.aload_n 0, 1) := by decide +kernel
theorem dX11_takes_228 : decode cX11_takes 228 = .ok (.getfield 294, 3) := by decide +kernel
theorem dX11_takes_231 : decode cX11_takes 231 = .ok (.invokevirtual 297, 3) := by decide +kernel
theorem dX11_takes_234 : decode cX11_takes 234 = .ok (.i2l, 1) := by decide +kernel
theorem dX11_takes_235 : decode cX11_takes 235 = .ok (.ladd, 1) := by decide +kernel
theorem dX11_takes_236 : decode cX11_takes 236 = .ok (.ldc2_w 320, 3) := by decide +kernel
theorem dX11_takes_239 : decode cX11_takes 239 = .ok (.lsub, 1) := by decide +kernel
theorem dX11_takes_240 : decode cX11_takes 240 = .ok (.goto 7, 3) := by decide +kernel
theorem dX11_takes_243 : decode cX11_takes 243 = .ok (.aload_n 0, 1) := by decide +kernel
theorem dX11_takes_244 : decode cX11_takes 244 = .ok (.getfield 303, 3) := by decide +kernel
theorem dX11_takes_247 : decode cX11_takes 247 = .ok (.putfield 303, 3) := by decide +kernel
theorem dX11_takes_250 : decode cX11_takes 250 = .ok (.aload_n 0, 1) := by decide +kernel
theorem dX11_takes_251 : decode cX11_takes 251 = .ok (.dup, 1) := by decide +kernel
theorem dX11_takes_252 : decode cX11_takes 252 = .ok (.getfield 294, 3) := by decide +kernel
theorem dX11_takes_255 : decode cX11_takes 255 = .ok (.iconst 1, 1) := by decide +kernel
theorem dX11_takes_256 : decode cX11_takes 256 = .ok (.iadd, 1) := by decide +kernel
theorem dX11_takes_257 : decode cX11_takes 257 = .ok (.putfield 294, 3) := by decide +kernel
theorem dX11_takes_260 : decode cX11_takes 260 = .ok (.goto (-71), 3) := by decide +kernel
theorem dX11_takes_263 : decode cX11_takes 263 = .ok (.aload_n 0, 1) := by decide +kernel
theorem dX11_takes_264 : decode cX11_takes 264 = .ok (.aload_n 0, 1) := by decide +kernel
theorem dX11_takes_265 : decode cX11_takes 265 = .ok (.getfield 294, 3) := by decide +kernel
theorem dX11_takes_268 : decode cX11_takes 268 = .ok (.aload_n 0, 1) := by decide +kernel
theorem dX11_takes_269 : decode cX11_takes 269 = .ok (.getfield 300, 3) := by decide +kernel
theorem dX11_takes_272 : decode cX11_takes 272 = .ok (.isub, 1) := by decide +kernel
theorem dX11_takes_273 : decode cX11_takes 273 = .ok (.bipush 6, 2) := by decide +kernel
theorem dX11_takes_275 : decode cX11_takes 275 = .ok (.if_icmp .le 7, 3) := by decide +kernel
theorem dX11_takes_278 : decode cX11_takes 278 = .ok (.iconst 4, 1) := by decide +kernel
theorem dX11_takes_279 : decode cX11_takes 279 = .ok (.goto 4, 3) := by decide +kernel
theorem dX11_takes_282 : decode cX11_takes 282 = .ok (.iconst 2, 1) := by decide +kernel
theorem dX11_takes_283 : decode cX11_takes 283 = .ok (.putfield 307, 3) := by decide +kernel
theorem dX11_takes_286 : decode cX11_takes 286 = .ok (.goto 28, 3) := by decide +kernel
theorem dX11_takes_289 : decode cX11_takes 289 = .ok (.aload_n 0, 1) := by decide +kernel
theorem dX11_takes_290 : decode cX11_takes 290 = .ok (.dup, 1) := by decide +kernel
theorem dX11_takes_291 : decode cX11_takes 291 = .ok (.getfield 294, 3) := by decide +kernel
theorem dX11_takes_294 : decode cX11_takes 294 = .ok (.iconst 1, 1) := by decide +kernel
theorem dX11_takes_295 : decode cX11_takes 295 = .ok (.iadd, 1) := by decide +kernel
theorem dX11_takes_296 : decode cX11_takes 296 = .ok (.putfield 294, 3) := by decide +kernel
theorem dX11_takes_299 : decode cX11_takes 299 = .ok (.aload_n 0, 1) := by decide +kernel
theorem dX11_takes_300 : decode cX11_takes 300 = .ok (.iload_n 1, 1) := by decide +kernel
theorem dX11_takes_301 : decode cX11_takes 301 = .ok (.bipush 59, 2) := by decide +kernel
theorem dX11_takes_303 : decode cX11_takes 303 = .ok (.if_icmp .ne 7, 3) := by decide +kernel
theorem dX11_takes_306 : decode cX11_takes 306 = .ok (.iconst 3, 1) := by decide +kernel
theorem dX11_takes_307 : decode cX11_takes 307 = .ok (.goto 4, 3) := by decide +kernel
theorem dX11_takes_310 : decode cX11_takes 310 = .ok (.iconst 4, 1) := by decide +kernel
theorem dX11_takes_311 : decode cX11_takes 311 = .ok (.putfield 307, 3) := by decide +kernel
theorem dX11_takes_314 : decode cX11_takes 314 = .ok (.return_, 1) := by decide +kernel
theorem dX11_fails_0 : decode cX11_fails 0 = .ok (.aload_n 0, 1) := by decide +kernel
theorem dX11_fails_1 : decode cX11_fails 1 = .ok (.getfield 288, 3) := by decide +kernel
theorem dX11_fails_4 : decode cX11_fails 4 = .ok (.iconst 1, 1) := by decide +kernel
theorem dX11_fails_5 : decode cX11_fails 5 = .ok (.if_icmp .eq 40, 3) := by decide +kernel
theorem dX11_fails_8 : decode cX11_fails 8 = .ok (.aload_n 0, 1) := by decide +kernel
theorem dX11_fails_9 : decode cX11_fails 9 = .ok (.getfield 288, 3) := by decide +kernel
theorem dX11_fails_12 : decode cX11_fails 12 = .ok (.iconst 1, 1) := by decide +kernel
theorem dX11_fails_13 : decode cX11_fails 13 = .ok (.if_icmp .le 33, 3) := by decide +kernel
theorem dX11_fails_16 : decode cX11_fails 16 = .ok (.iload_n 1, 1) := by decide +kernel
theorem dX11_fails_17 : decode cX11_fails 17 = .ok (.iconst 1, 1) := by decide +kernel
theorem dX11_fails_18 : decode cX11_fails 18 = .ok (.if_icmp .le 28, 3) := by decide +kernel
theorem dX11_fails_21 : decode cX11_fails 21 = .ok (.iload_n 2, 1) := by decide +kernel
theorem dX11_fails_22 : decode cX11_fails 22 = .ok (.aload_n 0, 1) := by decide +kernel
theorem dX11_fails_23 : decode cX11_fails 23 = .ok (.getfield 21, 3) := by decide +kernel
theorem dX11_fails_26 : decode cX11_fails 26 = .ok (.if_icmp .gt 19, 3) := by decide +kernel
theorem dX11_fails_29 : decode cX11_fails 29 = .ok (.iload_n 2, 1) := by decide +kernel
theorem dX11_fails_30 : decode cX11_fails 30 = .ok (.aload_n 0, 1) := by decide +kernel
theorem dX11_fails_31 : decode cX11_fails 31 = .ok (.getfield 21, 3) := by decide +kernel
theorem dX11_fails_34 : decode cX11_fails 34 = .ok (.if_icmp .ne 12, 3) := by decide +kernel
theorem dX11_fails_37 : decode cX11_fails 37 = .ok (.iload_n 1, 1) := by decide +kernel
theorem dX11_fails_38 : decode cX11_fails 38 = .ok (.aload_n 0, 1) := by decide +kernel
theorem dX11_fails_39 : decode cX11_fails 39 = .ok (.getfield 288, 3) := by decide +kernel
theorem dX11_fails_42 : decode cX11_fails 42 = .ok (.if_icmp .le 4, 3) := by decide +kernel
theorem dX11_fails_45 : decode cX11_fails 45 = .ok (.return_, 1) := by decide +kernel
theorem dX11_fails_46 : decode cX11_fails 46 = .ok (.aload_n 0, 1) := by decide +kernel
theorem dX11_fails_47 : decode cX11_fails 47 = .ok (.iload_n 1, 1) := by decide +kernel
theorem dX11_fails_48 : decode cX11_fails 48 = .ok (.putfield 288, 3) := by decide +kernel
theorem dX11_fails_51 : decode cX11_fails 51 = .ok (.aload_n 0, 1) := by decide +kernel
theorem dX11_fails_52 : decode cX11_fails 52 = .ok (.iload_n 2, 1) := by decide +kernel
theorem dX11_fails_53 : decode cX11_fails 53 = .ok (.putfield 21, 3) := by decide +kernel
theorem dX11_fails_56 : decode cX11_fails 56 = .ok (.return_, 1) := by decide +kernel
theorem dX11_isGood_0 : decode cX11_isGood 0 = .ok (.aload_n 0, 1) := by decide +kernel
theorem dX11_isGood_1 : decode cX11_isGood 1 = .ok (.getfield 288, 3) := by decide +kernel
theorem dX11_isGood_4 : decode cX11_isGood 4 = .ok (.iconst 1, 1) := by decide +kernel
theorem dX11_isGood_5 : decode cX11_isGood 5 = .ok (.if_icmp .eq 7, 3) := by decide +kernel
theorem dX11_isGood_8 : decode cX11_isGood 8 = .ok (.iconst 1, 1) := by decide +kernel
theorem dX11_isGood_9 : decode cX11_isGood 9 = .ok (.goto 4, 3) := by decide +kernel
theorem dX11_isGood_12 : decode cX11_isGood 12 = .ok (.iconst 0, 1) := by decide +kernel
theorem dX11_isGood_13 : decode cX11_isGood 13 = .ok (.ireturn, 1) := by decide +kernel
theorem dX11_isWord_0 : decode cX11_isWord 0 = .ok (.aload_n 0, 1) := by decide +kernel
theorem dX11_isWord_1 : decode cX11_isWord 1 = .ok (.invokevirtual 322, 3) := by decide +kernel
theorem dX11_isWord_4 : decode cX11_isWord 4 = .ok (.ifCond .eq 24, 3) := by decide +kernel
theorem dX11_isWord_7 : decode cX11_isWord 7 = .ok (.aload_n 0, 1) := by decide +kernel
theorem dX11_isWord_8 : decode cX11_isWord 8 = .ok (.getfield 307, 3) := by decide +kernel
theorem dX11_isWord_11 : decode cX11_isWord 11 = .ok (.iconst 1, 1) := by decide +kernel
theorem dX11_isWord_12 : decode cX11_isWord 12 = .ok (.if_icmp .ne 16, 3) := by decide +kernel
theorem dX11_isWord_15 : decode cX11_isWord 15 = .ok (.aload_n 0, 1) := by decide +kernel
theorem dX11_isWord_16 : decode cX11_isWord 16 = .ok (.getfield 303, 3) := by decide +kernel
theorem dX11_isWord_19 : decode cX11_isWord 19 = .ok (.lload_n 1, 1) := by decide +kernel
theorem dX11_isWord_20 : decode cX11_isWord 20 = .ok (.lcmp, 1) := by decide +kernel
theorem dX11_isWord_21 : decode cX11_isWord 21 = .ok (.ifCond .ne 7, 3) := by decide +kernel
theorem dX11_isWord_24 : decode cX11_isWord 24 = .ok (.iconst 1, 1) := by decide +kernel
theorem dX11_isWord_25 : decode cX11_isWord 25 = .ok (.goto 4, 3) := by decide +kernel
theorem dX11_isWord_28 : decode cX11_isWord 28 = .ok (.iconst 0, 1) := by decide +kernel
theorem dX11_isWord_29 : decode cX11_isWord 29 = .ok (.ireturn, 1) := by decide +kernel
theorem dX11_numeral_0 : decode cX11_numeral 0 = .ok (.aload_n 0, 1) := by decide +kernel
theorem dX11_numeral_1 : decode cX11_numeral 1 = .ok (.invokevirtual 322, 3) := by decide +kernel
theorem dX11_numeral_4 : decode cX11_numeral 4 = .ok (.ifCond .eq 20, 3) := by decide +kernel
theorem dX11_numeral_7 : decode cX11_numeral 7 = .ok (.aload_n 0, 1) := by decide +kernel
theorem dX11_numeral_8 : decode cX11_numeral 8 = .ok (.getfield 307, 3) := by decide +kernel
theorem dX11_numeral_11 : decode cX11_numeral 11 = .ok (.iconst 2, 1) := by decide +kernel
theorem dX11_numeral_12 : decode cX11_numeral 12 = .ok (.if_icmp .eq 12, 3) := by decide +kernel
theorem dX11_numeral_15 : decode cX11_numeral 15 = .ok (.aload_n 0, 1) := by decide +kernel
theorem dX11_numeral_16 : decode cX11_numeral 16 = .ok (.iconst 1, 1) := by decide +kernel
theorem dX11_numeral_17 : decode cX11_numeral 17 = .ok (.aload_n 0, 1) := by decide +kernel
theorem dX11_numeral_18 : decode cX11_numeral 18 = .ok (.getfield 300, 3) := by decide +kernel
theorem dX11_numeral_21 : decode cX11_numeral 21 = .ok (.invokevirtual 326, 3) := by decide +kernel
theorem dX11_numeral_24 : decode cX11_numeral 24 = .ok (.aload_n 0, 1) := by decide +kernel
theorem dX11_numeral_25 : decode cX11_numeral 25 = .ok (.invokevirtual 322, 3) := by decide +kernel
theorem dX11_numeral_28 : decode cX11_numeral 28 = .ok (.ifCond .ne 5, 3) := by decide +kernel
theorem dX11_numeral_31 : decode cX11_numeral 31 = .ok (.iconst (-1), 1) := by decide +kernel
theorem dX11_numeral_32 : decode cX11_numeral 32 = .ok (.ireturn, 1) := by decide +kernel
theorem dX11_numeral_33 : decode cX11_numeral 33 = .ok (.aload_n 0, 1) := by decide +kernel
theorem dX11_numeral_34 : decode cX11_numeral 34 = .ok (.aload_n 0, 1) := by decide +kernel
theorem dX11_numeral_35 : decode cX11_numeral 35 = .ok (.getfield 300, 3) := by decide +kernel
theorem dX11_numeral_38 : decode cX11_numeral 38 = .ok (.putfield 329, 3) := by decide +kernel
theorem dX11_numeral_41 : decode cX11_numeral 41 = .ok (.aload_n 0, 1) := by decide +kernel
theorem dX11_numeral_42 : decode cX11_numeral 42 = .ok (.aload_n 0, 1) := by decide +kernel
theorem dX11_numeral_43 : decode cX11_numeral 43 = .ok (.getfield 303, 3) := by decide +kernel
theorem dX11_numeral_46 : decode cX11_numeral 46 = .ok (.l2i, 1) := by decide +kernel
theorem dX11_numeral_47 : decode cX11_numeral 47 = .ok (.putfield 332, 3) := by decide +kernel
theorem dX11_numeral_50 : decode cX11_numeral 50 = .ok (.aload_n 0, 1) := by decide +kernel
theorem dX11_numeral_51 : decode cX11_numeral 51 = .ok (.invokevirtual 335, 3) := by decide +kernel
theorem dX11_numeral_54 : decode cX11_numeral 54 = .ok (.aload_n 0, 1) := by decide +kernel
theorem dX11_numeral_55 : decode cX11_numeral 55 = .ok (.getfield 332, 3) := by decide +kernel
theorem dX11_numeral_58 : decode cX11_numeral 58 = .ok (.iload_n 1, 1) := by decide +kernel
theorem dX11_numeral_59 : decode cX11_numeral 59 = .ok (.iload_n 2, 1) := by decide +kernel
theorem dX11_numeral_60 : decode cX11_numeral 60 = .ok (.invokestatic 52, 3) := by decide +kernel
theorem dX11_numeral_63 : decode cX11_numeral 63 = .ok (.ifCond .eq 8, 3) := by decide +kernel
theorem dX11_numeral_66 : decode cX11_numeral 66 = .ok (.aload_n 0, 1) := by decide +kernel
theorem dX11_numeral_67 : decode cX11_numeral 67 = .ok (.getfield 332, 3) := by decide +kernel
theorem dX11_numeral_70 : decode cX11_numeral 70 = .ok (.ireturn, 1) := by decide +kernel
theorem dX11_numeral_71 : decode cX11_numeral 71 = .ok (.aload_n 0, 1) := by decide +kernel
theorem dX11_numeral_72 : decode cX11_numeral 72 = .ok (.iconst 2, 1) := by decide +kernel
theorem dX11_numeral_73 : decode cX11_numeral 73 = .ok (.aload_n 0, 1) := by decide +kernel
theorem dX11_numeral_74 : decode cX11_numeral 74 = .ok (.getfield 329, 3) := by decide +kernel
theorem dX11_numeral_77 : decode cX11_numeral 77 = .ok (.invokevirtual 326, 3) := by decide +kernel
theorem dX11_numeral_80 : decode cX11_numeral 80 = .ok (.iconst (-1), 1) := by decide +kernel
theorem dX11_numeral_81 : decode cX11_numeral 81 = .ok (.ireturn, 1) := by decide +kernel
theorem dX11_one_0 : decode cX11_one 0 = .ok (.aload_n 0, 1) := by decide +kernel
theorem dX11_one_1 : decode cX11_one 1 = .ok (.iconst 0, 1) := by decide +kernel
theorem dX11_one_2 : decode cX11_one 2 = .ok (.ldc_w 338, 3) := by decide +kernel
theorem dX11_one_5 : decode cX11_one 5 = .ok (.invokevirtual 339, 3) := by decide +kernel
theorem dX11_one_8 : decode cX11_one 8 = .ok (.istore_n 2, 1) := by decide +kernel
theorem dX11_one_9 : decode cX11_one 9 = .ok (.aload_n 0, 1) := by decide +kernel
theorem dX11_one_10 : decode cX11_one 10 = .ok (.invokevirtual 322, 3) := by decide +kernel
theorem dX11_one_13 : decode cX11_one 13 = .ok (.ifCond .ne 4, 3) := by decide +kernel
theorem dX11_one_16 : decode cX11_one 16 = .ok (.return_, 1) := by decide +kernel
theorem dX11_one_17 : decode cX11_one 17 = .ok (.iload_n 1, 1) := by decide +kernel
theorem dX11_one_18 : decode cX11_one 18 = .ok (.iload_n 2, 1) := by decide +kernel
theorem dX11_one_19 : decode cX11_one 19 = .ok (.invokestatic 197, 3) := by decide +kernel
theorem dX11_one_22 : decode cX11_one 22 = .ok (.ifCond .eq 17, 3) := by decide +kernel
theorem dX11_one_25 : decode cX11_one 25 = .ok (.aload_n 0, 1) := by decide +kernel
theorem dX11_one_26 : decode cX11_one 26 = .ok (.getfield 8, 3) := by decide +kernel
theorem dX11_one_29 : decode cX11_one 29 = .ok (.sipush 4211, 3) := by decide +kernel
theorem dX11_one_32 : decode cX11_one 32 = .ok (.iload_n 1, 1) := by decide +kernel
theorem dX11_one_33 : decode cX11_one 33 = .ok (.iadd, 1) := by decide +kernel
theorem dX11_one_34 : decode cX11_one 34 = .ok (.iload_n 2, 1) := by decide +kernel
theorem dX11_one_35 : decode cX11_one 35 = .ok (.iastore, 1) := by decide +kernel
theorem dX11_one_36 : decode cX11_one 36 = .ok (.goto 12, 3) := by decide +kernel
theorem dX11_one_39 : decode cX11_one 39 = .ok (.aload_n 0, 1) := by decide +kernel
theorem dX11_one_40 : decode cX11_one 40 = .ok (.iconst 2, 1) := by decide +kernel
theorem dX11_one_41 : decode cX11_one 41 = .ok (.aload_n 0, 1) := by decide +kernel
theorem dX11_one_42 : decode cX11_one 42 = .ok (.getfield 329, 3) := by decide +kernel
theorem dX11_one_45 : decode cX11_one 45 = .ok (.invokevirtual 326, 3) := by decide +kernel
theorem dX11_one_48 : decode cX11_one 48 = .ok (.return_, 1) := by decide +kernel
theorem dX11_readsWish_0 : decode cX11_readsWish 0 = .ok (.aload_n 0, 1) := by decide +kernel
theorem dX11_readsWish_1 : decode cX11_readsWish 1 = .ok (.ldc2_w 269, 3) := by decide +kernel
theorem dX11_readsWish_4 : decode cX11_readsWish 4 = .ok (.invokevirtual 342, 3) := by decide +kernel
theorem dX11_readsWish_7 : decode cX11_readsWish 7 = .ok (.ifCond .eq 7, 3) := by decide +kernel
theorem dX11_readsWish_10 : decode cX11_readsWish 10 = .ok (.iconst 0, 1) := by decide +kernel
theorem dX11_readsWish_11 : decode cX11_readsWish 11 = .ok (.goto 32, 3) := by decide +kernel
theorem dX11_readsWish_14 : decode cX11_readsWish 14 = .ok (.aload_n 0, 1) := by decide +kernel
theorem dX11_readsWish_15 : decode cX11_readsWish 15 = .ok (.ldc2_w 271, 3) := by decide +kernel
theorem dX11_readsWish_18 : decode cX11_readsWish 18 = .ok (.invokevirtual 342, 3) := by decide +kernel
theorem dX11_readsWish_21 : decode cX11_readsWish 21 = .ok (.ifCond .eq 7, 3) := by decide +kernel
theorem dX11_readsWish_24 : decode cX11_readsWish 24 = .ok (.iconst 1, 1) := by decide +kernel
theorem dX11_readsWish_25 : decode cX11_readsWish 25 = .ok (.goto 18, 3) := by decide +kernel
theorem dX11_readsWish_28 : decode cX11_readsWish 28 = .ok (.aload_n 0, 1) := by decide +kernel
theorem dX11_readsWish_29 : decode cX11_readsWish 29 = .ok (.ldc2_w 273, 3) := by decide +kernel
theorem dX11_readsWish_32 : decode cX11_readsWish 32 = .ok (.invokevirtual 342, 3) := by decide +kernel
theorem dX11_readsWish_35 : decode cX11_readsWish 35 = .ok (.ifCond .eq 7, 3) := by decide +kernel
theorem dX11_readsWish_38 : decode cX11_readsWish 38 = .ok (.iconst 2, 1) := by decide +kernel
theorem dX11_readsWish_39 : decode cX11_readsWish 39 = .ok (.goto 4, 3) := by decide +kernel
theorem dX11_readsWish_42 : decode cX11_readsWish 42 = .ok (.iconst (-1), 1) := by decide +kernel
theorem dX11_readsWish_43 : decode cX11_readsWish 43 = .ok (.istore_n 1, 1) := by decide +kernel
theorem dX11_readsWish_44 : decode cX11_readsWish 44 = .ok (.iload_n 1, 1) := by decide +kernel
theorem dX11_readsWish_45 : decode cX11_readsWish 45 = .ok (.iconst (-1), 1) := by decide +kernel
theorem dX11_readsWish_46 : decode cX11_readsWish 46 = .ok (.if_icmp .ne 12, 3) := by decide +kernel
theorem dX11_readsWish_49 : decode cX11_readsWish 49 = .ok (.aload_n 0, 1) := by decide +kernel
theorem dX11_readsWish_50 : decode cX11_readsWish 50 = .ok (.iconst 1, 1) := by decide +kernel
theorem dX11_readsWish_51 : decode cX11_readsWish 51 = .ok (.aload_n 0, 1) := by decide +kernel
theorem dX11_readsWish_52 : decode cX11_readsWish 52 = .ok (.getfield 300, 3) := by decide +kernel
theorem dX11_readsWish_55 : decode cX11_readsWish 55 = .ok (.invokevirtual 326, 3) := by decide +kernel
theorem dX11_readsWish_58 : decode cX11_readsWish 58 = .ok (.aload_n 0, 1) := by decide +kernel
theorem dX11_readsWish_59 : decode cX11_readsWish 59 = .ok (.invokevirtual 322, 3) := by decide +kernel
theorem dX11_readsWish_62 : decode cX11_readsWish 62 = .ok (.ifCond .ne 4, 3) := by decide +kernel
theorem dX11_readsWish_65 : decode cX11_readsWish 65 = .ok (.return_, 1) := by decide +kernel
theorem dX11_readsWish_66 : decode cX11_readsWish 66 = .ok (.aload_n 0, 1) := by decide +kernel
theorem dX11_readsWish_67 : decode cX11_readsWish 67 = .ok (.getfield 8, 3) := by decide +kernel
theorem dX11_readsWish_70 : decode cX11_readsWish 70 = .ok (.sipush 4219, 3) := by decide +kernel
theorem dX11_readsWish_73 : decode cX11_readsWish 73 = .ok (.iload_n 1, 1) := by decide +kernel
theorem dX11_readsWish_74 : decode cX11_readsWish 74 = .ok (.iastore, 1) := by decide +kernel
theorem dX11_readsWish_75 : decode cX11_readsWish 75 = .ok (.aload_n 0, 1) := by decide +kernel
theorem dX11_readsWish_76 : decode cX11_readsWish 76 = .ok (.invokevirtual 335, 3) := by decide +kernel
theorem dX11_readsWish_79 : decode cX11_readsWish 79 = .ok (.return_, 1) := by decide +kernel
theorem dX11_readsBad_0 : decode cX11_readsBad 0 = .ok (.aload_n 0, 1) := by decide +kernel
theorem dX11_readsBad_1 : decode cX11_readsBad 1 = .ok (.getfield 8, 3) := by decide +kernel
theorem dX11_readsBad_4 : decode cX11_readsBad 4 = .ok (.sipush 4220, 3) := by decide +kernel
theorem dX11_readsBad_7 : decode cX11_readsBad 7 = .ok (.iaload, 1) := by decide +kernel
theorem dX11_readsBad_8 : decode cX11_readsBad 8 = .ok (.bipush 12, 2) := by decide +kernel
theorem dX11_readsBad_10 : decode cX11_readsBad 10 = .ok (.if_icmp .ne 9, 3) := by decide +kernel
theorem dX11_readsBad_13 : decode cX11_readsBad 13 = .ok (.aload_n 0, 1) := by decide +kernel
theorem dX11_readsBad_14 : decode cX11_readsBad 14 = .ok (.iconst 4, 1) := by decide +kernel
theorem dX11_readsBad_15 : decode cX11_readsBad 15 = .ok (.iload_n 1, 1) := by decide +kernel
theorem dX11_readsBad_16 : decode cX11_readsBad 16 = .ok (.invokevirtual 326, 3) := by decide +kernel
theorem dX11_readsBad_19 : decode cX11_readsBad 19 = .ok (.aload_n 0, 1) := by decide +kernel
theorem dX11_readsBad_20 : decode cX11_readsBad 20 = .ok (.iconst 0, 1) := by decide +kernel
theorem dX11_readsBad_21 : decode cX11_readsBad 21 = .ok (.sipush 511, 3) := by decide +kernel
theorem dX11_readsBad_24 : decode cX11_readsBad 24 = .ok (.invokevirtual 339, 3) := by decide +kernel
theorem dX11_readsBad_27 : decode cX11_readsBad 27 = .ok (.istore_n 2, 1) := by decide +kernel
theorem dX11_readsBad_28 : decode cX11_readsBad 28 = .ok (.aload_n 0, 1) := by decide +kernel
theorem dX11_readsBad_29 : decode cX11_readsBad 29 = .ok (.getfield 329, 3) := by decide +kernel
theorem dX11_readsBad_32 : decode cX11_readsBad 32 = .ok (.istore_n 3, 1) := by decide +kernel
theorem dX11_readsBad_33 : decode cX11_readsBad 33 = .ok (.aload_n 0, 1) := by decide +kernel
theorem dX11_readsBad_34 : decode cX11_readsBad 34 = .ok (.iconst 0, 1) := by decide +kernel
theorem dX11_readsBad_35 : decode cX11_readsBad 35 = .ok (.sipush 255, 3) := by decide +kernel
theorem dX11_readsBad_38 : decode cX11_readsBad 38 = .ok (.invokevirtual 339, 3) := by decide +kernel
theorem dX11_readsBad_41 : decode cX11_readsBad 41 = .ok (.istore 4, 2) := by decide +kernel
theorem dX11_readsBad_43 : decode cX11_readsBad 43 = .ok (.aload_n 0, 1) := by decide +kernel
theorem dX11_readsBad_44 : decode cX11_readsBad 44 = .ok (.iconst 0, 1) := by decide +kernel
theorem dX11_readsBad_45 : decode cX11_readsBad 45 = .ok (.iconst 1, 1) := by decide +kernel
theorem dX11_readsBad_46 : decode cX11_readsBad 46 = .ok (.invokevirtual 339, 3) := by decide +kernel
theorem dX11_readsBad_49 : decode cX11_readsBad 49 = .ok (.istore 5, 2) := by decide +kernel
theorem dX11_readsBad_51 : decode cX11_readsBad 51 = .ok (.aload_n 0, 1) := by decide +kernel
theorem dX11_readsBad_52 : decode cX11_readsBad 52 = .ok (.invokevirtual 322, 3) := by decide +kernel
theorem dX11_readsBad_55 : decode cX11_readsBad 55 = .ok (.ifCond .eq 12, 3) := by decide +kernel
theorem dX11_readsBad_58 : decode cX11_readsBad 58 = .ok (.iload_n 2, 1) := by decide +kernel
theorem dX11_readsBad_59 : decode cX11_readsBad 59 = .ok (.ifCond .lt 8, 3) := by decide +kernel
theorem dX11_readsBad_62 : decode cX11_readsBad 62 = .ok (.iload 4, 2) := by decide +kernel
theorem dX11_readsBad_64 : decode cX11_readsBad 64 = .ok (.ifCond .ge 4, 3) := by decide +kernel
theorem dX11_readsBad_67 : decode cX11_readsBad 67 = .ok (.return_, 1) := by decide +kernel
theorem dX11_readsBad_68 : decode cX11_readsBad 68 = .ok (.aload_n 0, 1) := by decide +kernel
theorem dX11_readsBad_69 : decode cX11_readsBad 69 = .ok (.sipush 4211, 3) := by decide +kernel
theorem dX11_readsBad_72 : decode cX11_readsBad 72 = .ok (.iload_n 2, 1) := by decide +kernel
theorem dX11_readsBad_73 : decode cX11_readsBad 73 = .ok (.iload 4, 2) := by decide +kernel
theorem dX11_readsBad_75 : decode cX11_readsBad 75 = .ok (.invokevirtual 215, 3) := by decide +kernel
theorem dX11_readsBad_78 : decode cX11_readsBad 78 = .ok (.iconst (-1), 1) := by decide +kernel
theorem dX11_readsBad_79 : decode cX11_readsBad 79 = .ok (.if_icmp .eq 9, 3) := by decide +kernel
theorem dX11_readsBad_82 : decode cX11_readsBad 82 = .ok (.aload_n 0, 1) := by decide +kernel
theorem dX11_readsBad_83 : decode cX11_readsBad 83 = .ok (.iconst 3, 1) := by decide +kernel
theorem dX11_readsBad_84 : decode cX11_readsBad 84 = .ok (.iload_n 3, 1) := by decide +kernel
theorem dX11_readsBad_85 : decode cX11_readsBad 85 = .ok (.invokevirtual 326, 3) := by decide +kernel
theorem dX11_readsBad_88 : decode cX11_readsBad 88 = .ok (.iload 5, 2) := by decide +kernel
theorem dX11_readsBad_90 : decode cX11_readsBad 90 = .ok (.ifCond .lt 28, 3) := by decide +kernel
theorem dX11_readsBad_93 : decode cX11_readsBad 93 = .ok (.aload_n 0, 1) := by decide +kernel
theorem dX11_readsBad_94 : decode cX11_readsBad 94 = .ok (.getfield 8, 3) := by decide +kernel
theorem dX11_readsBad_97 : decode cX11_readsBad 97 = .ok (.sipush 4220, 3) := by decide +kernel
theorem dX11_readsBad_100 : decode cX11_readsBad 100 = .ok (.iaload, 1) := by decide +kernel
theorem dX11_readsBad_101 : decode cX11_readsBad 101 = .ok (.bipush 12, 2) := by decide +kernel
theorem dX11_readsBad_103 : decode cX11_readsBad 103 = .ok (.if_icmp .ge 15, 3) := by decide +kernel
theorem dX11_readsBad_106 : decode cX11_readsBad 106 = .ok (.aload_n 0, 1) := by decide +kernel
theorem dX11_readsBad_107 : decode cX11_readsBad 107 = .ok (.sipush 4211, 3) := by decide +kernel
theorem dX11_readsBad_110 : decode cX11_readsBad 110 = .ok (.iload_n 2, 1) := by decide +kernel
theorem dX11_readsBad_111 : decode cX11_readsBad 111 = .ok (.iload 4, 2) := by decide +kernel
theorem dX11_readsBad_113 : decode cX11_readsBad 113 = .ok (.iload 5, 2) := by decide +kernel
theorem dX11_readsBad_115 : decode cX11_readsBad 115 = .ok (.invokevirtual 218, 3) := by decide +kernel
theorem dX11_readsBad_118 : decode cX11_readsBad 118 = .ok (.return_, 1) := by decide +kernel
theorem dX11_readsLine_0 : decode cX11_readsLine 0 = .ok (.aload_n 0, 1) := by decide +kernel
theorem dX11_readsLine_1 : decode cX11_readsLine 1 = .ok (.getfield 300, 3) := by decide +kernel
theorem dX11_readsLine_4 : decode cX11_readsLine 4 = .ok (.istore_n 1, 1) := by decide +kernel
theorem dX11_readsLine_5 : decode cX11_readsLine 5 = .ok (.aload_n 0, 1) := by decide +kernel
theorem dX11_readsLine_6 : decode cX11_readsLine 6 = .ok (.getfield 307, 3) := by decide +kernel
theorem dX11_readsLine_9 : decode cX11_readsLine 9 = .ok (.iconst 1, 1) := by decide +kernel
theorem dX11_readsLine_10 : decode cX11_readsLine 10 = .ok (.if_icmp .ne 10, 3) := by decide +kernel
theorem dX11_readsLine_13 : decode cX11_readsLine 13 = .ok (.aload_n 0, 1) := by decide +kernel
theorem dX11_readsLine_14 : decode cX11_readsLine 14 = .ok (.getfield 303, 3) := by decide +kernel
theorem dX11_readsLine_17 : decode cX11_readsLine 17 = .ok (.goto 4, 3) := by decide +kernel
theorem dX11_readsLine_20 : decode cX11_readsLine 20 = .ok (.lconst 0, 1) := by decide +kernel
theorem dX11_readsLine_21 : decode cX11_readsLine 21 = .ok (.lstore_n 2, 1) := by decide +kernel
theorem dX11_readsLine_22 : decode cX11_readsLine 22 = .ok (.aload_n 0, 1) := by decide +kernel
theorem dX11_readsLine_23 : decode cX11_readsLine 23 = .ok (.getfield 307, 3) := by decide +kernel
theorem dX11_readsLine_26 : decode cX11_readsLine 26 = .ok (.iconst 1, 1) := by decide +kernel
theorem dX11_readsLine_27 : decode cX11_readsLine 27 = .ok (.if_icmp .eq 12, 3) := by decide +kernel
theorem dX11_readsLine_30 : decode cX11_readsLine 30 = .ok (.aload_n 0, 1) := by decide +kernel
theorem dX11_readsLine_31 : decode cX11_readsLine 31 = .ok (.iconst 1, 1) := by decide +kernel
theorem dX11_readsLine_32 : decode cX11_readsLine 32 = .ok (.aload_n 0, 1) := by decide +kernel
theorem dX11_readsLine_33 : decode cX11_readsLine 33 = .ok (.getfield 300, 3) := by decide +kernel
theorem dX11_readsLine_36 : decode cX11_readsLine 36 = .ok (.invokevirtual 326, 3) := by decide +kernel
theorem dX11_readsLine_39 : decode cX11_readsLine 39 = .ok (.lload_n 2, 1) := by decide +kernel
theorem dX11_readsLine_40 : decode cX11_readsLine 40 = .ok (.ldc2_w 251, 3) := by decide +kernel
theorem dX11_readsLine_43 : decode cX11_readsLine 43 = .ok (.lcmp, 1) := by decide +kernel
theorem dX11_readsLine_44 : decode cX11_readsLine 44 = .ok (.ifCond .eq 59, 3) := by decide +kernel
theorem dX11_readsLine_47 : decode cX11_readsLine 47 = .ok (.lload_n 2, 1) := by decide +kernel
theorem dX11_readsLine_48 : decode cX11_readsLine 48 = .ok (.ldc2_w 257, 3) := by decide +kernel
theorem dX11_readsLine_51 : decode cX11_readsLine 51 = .ok (.lcmp, 1) := by decide +kernel
theorem dX11_readsLine_52 : decode cX11_readsLine 52 = .ok (.ifCond .eq 51, 3) := by decide +kernel
theorem dX11_readsLine_55 : decode cX11_readsLine 55 = .ok (.lload_n 2, 1) := by decide +kernel
theorem dX11_readsLine_56 : decode cX11_readsLine 56 = .ok (.ldc2_w 259, 3) := by decide +kernel
theorem dX11_readsLine_59 : decode cX11_readsLine 59 = .ok (.lcmp, 1) := by decide +kernel
theorem dX11_readsLine_60 : decode cX11_readsLine 60 = .ok (.ifCond .eq 43, 3) := by decide +kernel
theorem dX11_readsLine_63 : decode cX11_readsLine 63 = .ok (.lload_n 2, 1) := by decide +kernel
theorem dX11_readsLine_64 : decode cX11_readsLine 64 = .ok (.ldc2_w 261, 3) := by decide +kernel
theorem dX11_readsLine_67 : decode cX11_readsLine 67 = .ok (.lcmp, 1) := by decide +kernel
theorem dX11_readsLine_68 : decode cX11_readsLine 68 = .ok (.ifCond .eq 35, 3) := by decide +kernel
theorem dX11_readsLine_71 : decode cX11_readsLine 71 = .ok (.lload_n 2, 1) := by decide +kernel
theorem dX11_readsLine_72 : decode cX11_readsLine 72 = .ok (.ldc2_w 263, 3) := by decide +kernel
theorem dX11_readsLine_75 : decode cX11_readsLine 75 = .ok (.lcmp, 1) := by decide +kernel
theorem dX11_readsLine_76 : decode cX11_readsLine 76 = .ok (.ifCond .eq 27, 3) := by decide +kernel
theorem dX11_readsLine_79 : decode cX11_readsLine 79 = .ok (.lload_n 2, 1) := by decide +kernel
theorem dX11_readsLine_80 : decode cX11_readsLine 80 = .ok (.ldc2_w 265, 3) := by decide +kernel
theorem dX11_readsLine_83 : decode cX11_readsLine 83 = .ok (.lcmp, 1) := by decide +kernel
theorem dX11_readsLine_84 : decode cX11_readsLine 84 = .ok (.ifCond .eq 19, 3) := by decide +kernel
theorem dX11_readsLine_87 : decode cX11_readsLine 87 = .ok (.lload_n 2, 1) := by decide +kernel
theorem dX11_readsLine_88 : decode cX11_readsLine 88 = .ok (.ldc2_w 267, 3) := by decide +kernel
theorem dX11_readsLine_91 : decode cX11_readsLine 91 = .ok (.lcmp, 1) := by decide +kernel
theorem dX11_readsLine_92 : decode cX11_readsLine 92 = .ok (.ifCond .eq 11, 3) := by decide +kernel
theorem dX11_readsLine_95 : decode cX11_readsLine 95 = .ok (.lload_n 2, 1) := by decide +kernel
theorem dX11_readsLine_96 : decode cX11_readsLine 96 = .ok (.ldc2_w 275, 3) := by decide +kernel
theorem dX11_readsLine_99 : decode cX11_readsLine 99 = .ok (.lcmp, 1) := by decide +kernel
theorem dX11_readsLine_100 : decode cX11_readsLine 100 = .ok (.ifCond .ne 7, 3) := by decide +kernel
theorem dX11_readsLine_103 : decode cX11_readsLine 103 = .ok (.iconst 1, 1) := by decide +kernel
theorem dX11_readsLine_104 : decode cX11_readsLine 104 = .ok (.goto 4, 3) := by decide +kernel
theorem dX11_readsLine_107 : decode cX11_readsLine 107 = .ok (.iconst 0, 1) := by decide +kernel
theorem dX11_readsLine_108 : decode cX11_readsLine 108 = .ok (.istore 4, 2) := by decide +kernel
theorem dX11_readsLine_110 : decode cX11_readsLine 110 = .ok (.iload 4, 2) := by decide +kernel
theorem dX11_readsLine_112 : decode cX11_readsLine 112 = .ok (.ifCond .ne 12, 3) := by decide +kernel
theorem dX11_readsLine_115 : decode cX11_readsLine 115 = .ok (.aload_n 0, 1) := by decide +kernel
theorem dX11_readsLine_116 : decode cX11_readsLine 116 = .ok (.iconst 1, 1) := by decide +kernel
theorem dX11_readsLine_117 : decode cX11_readsLine 117 = .ok (.aload_n 0, 1) := by decide +kernel
theorem dX11_readsLine_118 : decode cX11_readsLine 118 = .ok (.getfield 300, 3) := by decide +kernel
theorem dX11_readsLine_121 : decode cX11_readsLine 121 = .ok (.invokevirtual 326, 3) := by decide +kernel
theorem dX11_readsLine_124 : decode cX11_readsLine 124 = .ok (.aload_n 0, 1) := by decide +kernel
theorem dX11_readsLine_125 : decode cX11_readsLine 125 = .ok (.invokevirtual 322, 3) := by decide +kernel
theorem dX11_readsLine_128 : decode cX11_readsLine 128 = .ok (.ifCond .ne 4, 3) := by decide +kernel
theorem dX11_readsLine_131 : decode cX11_readsLine 131 = .ok (.return_, 1) := by decide +kernel
theorem dX11_readsLine_132 : decode cX11_readsLine 132 = .ok (.aload_n 0, 1) := by decide +kernel
theorem dX11_readsLine_133 : decode cX11_readsLine 133 = .ok (.invokevirtual 335, 3) := by decide +kernel
theorem dX11_readsLine_136 : decode cX11_readsLine 136 = .ok (.lload_n 2, 1) := by decide +kernel
theorem dX11_readsLine_137 : decode cX11_readsLine 137 = .ok (.ldc2_w 251, 3) := by decide +kernel
theorem dX11_readsLine_140 : decode cX11_readsLine 140 = .ok (.lcmp, 1) := by decide +kernel
theorem dX11_readsLine_141 : decode cX11_readsLine 141 = .ok (.ifCond .ne 8, 3) := by decide +kernel
theorem dX11_readsLine_144 : decode cX11_readsLine 144 = .ok (.aload_n 0, 1) := by decide +kernel
theorem dX11_readsLine_145 : decode cX11_readsLine 145 = .ok (.iconst 0, 1) := by decide +kernel
theorem dX11_readsLine_146 : decode cX11_readsLine 146 = .ok (.invokevirtual 346, 3) := by decide +kernel
theorem dX11_readsLine_149 : decode cX11_readsLine 149 = .ok (.lload_n 2, 1) := by decide +kernel
theorem dX11_readsLine_150 : decode cX11_readsLine 150 = .ok (.ldc2_w 257, 3) := by decide +kernel
theorem dX11_readsLine_153 : decode cX11_readsLine 153 = .ok (.lcmp, 1) := by decide +kernel
theorem dX11_readsLine_154 : decode cX11_readsLine 154 = .ok (.ifCond .ne 8, 3) := by decide +kernel
theorem dX11_readsLine_157 : decode cX11_readsLine 157 = .ok (.aload_n 0, 1) := by decide +kernel
theorem dX11_readsLine_158 : decode cX11_readsLine 158 = .ok (.iconst 1, 1) := by decide +kernel
theorem dX11_readsLine_159 : decode cX11_readsLine 159 = .ok (.invokevirtual 346, 3) := by decide +kernel
theorem dX11_readsLine_162 : decode cX11_readsLine 162 = .ok (.lload_n 2, 1) := by decide +kernel
theorem dX11_readsLine_163 : decode cX11_readsLine 163 = .ok (.ldc2_w 259, 3) := by decide +kernel
theorem dX11_readsLine_166 : decode cX11_readsLine 166 = .ok (.lcmp, 1) := by decide +kernel
theorem dX11_readsLine_167 : decode cX11_readsLine 167 = .ok (.ifCond .ne 8, 3) := by decide +kernel
theorem dX11_readsLine_170 : decode cX11_readsLine 170 = .ok (.aload_n 0, 1) := by decide +kernel
theorem dX11_readsLine_171 : decode cX11_readsLine 171 = .ok (.iconst 2, 1) := by decide +kernel
theorem dX11_readsLine_172 : decode cX11_readsLine 172 = .ok (.invokevirtual 346, 3) := by decide +kernel
theorem dX11_readsLine_175 : decode cX11_readsLine 175 = .ok (.lload_n 2, 1) := by decide +kernel
theorem dX11_readsLine_176 : decode cX11_readsLine 176 = .ok (.ldc2_w 261, 3) := by decide +kernel
theorem dX11_readsLine_179 : decode cX11_readsLine 179 = .ok (.lcmp, 1) := by decide +kernel
theorem dX11_readsLine_180 : decode cX11_readsLine 180 = .ok (.ifCond .eq 11, 3) := by decide +kernel
theorem dX11_readsLine_183 : decode cX11_readsLine 183 = .ok (.lload_n 2, 1) := by decide +kernel
theorem dX11_readsLine_184 : decode cX11_readsLine 184 = .ok (.ldc2_w 263, 3) := by decide +kernel
theorem dX11_readsLine_187 : decode cX11_readsLine 187 = .ok (.lcmp, 1) := by decide +kernel
theorem dX11_readsLine_188 : decode cX11_readsLine 188 = .ok (.ifCond .ne 38, 3) := by decide +kernel
theorem dX11_readsLine_191 : decode cX11_readsLine 191 = .ok (.aload_n 0, 1) := by decide +kernel
theorem dX11_readsLine_192 : decode cX11_readsLine 192 = .ok (.lload_n 2, 1) := by decide +kernel
theorem dX11_readsLine_193 : decode cX11_readsLine 193 = .ok (.ldc2_w 261, 3) := by decide +kernel
theorem dX11_readsLine_196 : decode cX11_readsLine 196 = .ok (.lcmp, 1) := by decide +kernel
theorem dX11_readsLine_197 : decode cX11_readsLine 197 = .ok (.ifCond .ne 7, 3) := by decide +kernel
theorem dX11_readsLine_200 : decode cX11_readsLine 200 = .ok (.iconst 3, 1) := by decide +kernel
theorem dX11_readsLine_201 : decode cX11_readsLine 201 = .ok (.goto 4, 3) := by decide +kernel
theorem dX11_readsLine_204 : decode cX11_readsLine 204 = .ok (.iconst 5, 1) := by decide +kernel
theorem dX11_readsLine_205 : decode cX11_readsLine 205 = .ok (.invokevirtual 346, 3) := by decide +kernel
theorem dX11_readsLine_208 : decode cX11_readsLine 208 = .ok (.aload_n 0, 1) := by decide +kernel
theorem dX11_readsLine_209 : decode cX11_readsLine 209 = .ok (.lload_n 2, 1) := by decide +kernel
theorem dX11_readsLine_210 : decode cX11_readsLine 210 = .ok (.ldc2_w 261, 3) := by decide +kernel
theorem dX11_readsLine_213 : decode cX11_readsLine 213 = .ok (.lcmp, 1) := by decide +kernel
theorem dX11_readsLine_214 : decode cX11_readsLine 214 = .ok (.ifCond .ne 7, 3) := by decide +kernel
theorem dX11_readsLine_217 : decode cX11_readsLine 217 = .ok (.iconst 4, 1) := by decide +kernel
theorem dX11_readsLine_218 : decode cX11_readsLine 218 = .ok (.goto 5, 3) := by decide +kernel
theorem dX11_readsLine_221 : decode cX11_readsLine 221 = .ok (.bipush 6, 2) := by decide +kernel
theorem dX11_readsLine_223 : decode cX11_readsLine 223 = .ok (.invokevirtual 346, 3) := by decide +kernel
theorem dX11_readsLine_226 : decode cX11_readsLine 226 = .ok (.lload_n 2, 1) := by decide +kernel
theorem dX11_readsLine_227 : decode cX11_readsLine 227 = .ok (.ldc2_w 265, 3) := by decide +kernel
theorem dX11_readsLine_230 : decode cX11_readsLine 230 = .ok (.lcmp, 1) := by decide +kernel
theorem dX11_readsLine_231 : decode cX11_readsLine 231 = .ok (.ifCond .ne 9, 3) := by decide +kernel
theorem dX11_readsLine_234 : decode cX11_readsLine 234 = .ok (.aload_n 0, 1) := by decide +kernel
theorem dX11_readsLine_235 : decode cX11_readsLine 235 = .ok (.bipush 7, 2) := by decide +kernel
theorem dX11_readsLine_237 : decode cX11_readsLine 237 = .ok (.invokevirtual 346, 3) := by decide +kernel
theorem dX11_readsLine_240 : decode cX11_readsLine 240 = .ok (.lload_n 2, 1) := by decide +kernel
theorem dX11_readsLine_241 : decode cX11_readsLine 241 = .ok (.ldc2_w 267, 3) := by decide +kernel
theorem dX11_readsLine_244 : decode cX11_readsLine 244 = .ok (.lcmp, 1) := by decide +kernel
theorem dX11_readsLine_245 : decode cX11_readsLine 245 = .ok (.ifCond .ne 7, 3) := by decide +kernel
theorem dX11_readsLine_248 : decode cX11_readsLine 248 = .ok (.aload_n 0, 1) := by decide +kernel
theorem dX11_readsLine_249 : decode cX11_readsLine 249 = .ok (.invokevirtual 349, 3) := by decide +kernel
theorem dX11_readsLine_252 : decode cX11_readsLine 252 = .ok (.lload_n 2, 1) := by decide +kernel
theorem dX11_readsLine_253 : decode cX11_readsLine 253 = .ok (.ldc2_w 275, 3) := by decide +kernel
theorem dX11_readsLine_256 : decode cX11_readsLine 256 = .ok (.lcmp, 1) := by decide +kernel
theorem dX11_readsLine_257 : decode cX11_readsLine 257 = .ok (.ifCond .ne 8, 3) := by decide +kernel
theorem dX11_readsLine_260 : decode cX11_readsLine 260 = .ok (.aload_n 0, 1) := by decide +kernel
theorem dX11_readsLine_261 : decode cX11_readsLine 261 = .ok (.iload_n 1, 1) := by decide +kernel
theorem dX11_readsLine_262 : decode cX11_readsLine 262 = .ok (.invokevirtual 352, 3) := by decide +kernel
theorem dX11_readsLine_265 : decode cX11_readsLine 265 = .ok (.aload_n 0, 1) := by decide +kernel
theorem dX11_readsLine_266 : decode cX11_readsLine 266 = .ok (.invokevirtual 322, 3) := by decide +kernel
theorem dX11_readsLine_269 : decode cX11_readsLine 269 = .ok (.ifCond .eq 20, 3) := by decide +kernel
theorem dX11_readsLine_272 : decode cX11_readsLine 272 = .ok (.aload_n 0, 1) := by decide +kernel
theorem dX11_readsLine_273 : decode cX11_readsLine 273 = .ok (.getfield 307, 3) := by decide +kernel
theorem dX11_readsLine_276 : decode cX11_readsLine 276 = .ok (.iconst 3, 1) := by decide +kernel
theorem dX11_readsLine_277 : decode cX11_readsLine 277 = .ok (.if_icmp .eq 12, 3) := by decide +kernel
theorem dX11_readsLine_280 : decode cX11_readsLine 280 = .ok (.aload_n 0, 1) := by decide +kernel
theorem dX11_readsLine_281 : decode cX11_readsLine 281 = .ok (.iconst 1, 1) := by decide +kernel
theorem dX11_readsLine_282 : decode cX11_readsLine 282 = .ok (.aload_n 0, 1) := by decide +kernel
theorem dX11_readsLine_283 : decode cX11_readsLine 283 = .ok (.getfield 300, 3) := by decide +kernel
theorem dX11_readsLine_286 : decode cX11_readsLine 286 = .ok (.invokevirtual 326, 3) := by decide +kernel
theorem dX11_readsLine_289 : decode cX11_readsLine 289 = .ok (.aload_n 0, 1) := by decide +kernel
theorem dX11_readsLine_290 : decode cX11_readsLine 290 = .ok (.invokevirtual 322, 3) := by decide +kernel
theorem dX11_readsLine_293 : decode cX11_readsLine 293 = .ok (.ifCond .eq 7, 3) := by decide +kernel
theorem dX11_readsLine_296 : decode cX11_readsLine 296 = .ok (.aload_n 0, 1) := by decide +kernel
theorem dX11_readsLine_297 : decode cX11_readsLine 297 = .ok (.invokevirtual 335, 3) := by decide +kernel
theorem dX11_readsLine_300 : decode cX11_readsLine 300 = .ok (.return_, 1) := by decide +kernel
theorem dX11_spec_0 : decode cX11_spec 0 = .ok (.aload_n 0, 1) := by decide +kernel
theorem dX11_spec_1 : decode cX11_spec 1 = .ok (.aload_n 0, 1) := by decide +kernel
theorem dX11_spec_2 : decode cX11_spec 2 = .ok (.getfield 228, 3) := by decide +kernel
theorem dX11_spec_5 : decode cX11_spec 5 = .ok (.putfield 291, 3) := by decide +kernel
theorem dX11_spec_8 : decode cX11_spec 8 = .ok (.aload_n 0, 1) := by decide +kernel
theorem dX11_spec_9 : decode cX11_spec 9 = .ok (.iconst 0, 1) := by decide +kernel
theorem dX11_spec_10 : decode cX11_spec 10 = .ok (.putfield 228, 3) := by decide +kernel
theorem dX11_spec_13 : decode cX11_spec 13 = .ok (.aload_n 0, 1) := by decide +kernel
theorem dX11_spec_14 : decode cX11_spec 14 = .ok (.iconst 0, 1) := by decide +kernel
theorem dX11_spec_15 : decode cX11_spec 15 = .ok (.putfield 288, 3) := by decide +kernel
theorem dX11_spec_18 : decode cX11_spec 18 = .ok (.aload_n 0, 1) := by decide +kernel
theorem dX11_spec_19 : decode cX11_spec 19 = .ok (.iconst (-1), 1) := by decide +kernel
theorem dX11_spec_20 : decode cX11_spec 20 = .ok (.putfield 21, 3) := by decide +kernel
theorem dX11_spec_23 : decode cX11_spec 23 = .ok (.aload_n 0, 1) := by decide +kernel
theorem dX11_spec_24 : decode cX11_spec 24 = .ok (.iconst 0, 1) := by decide +kernel
theorem dX11_spec_25 : decode cX11_spec 25 = .ok (.putfield 294, 3) := by decide +kernel
theorem dX11_spec_28 : decode cX11_spec 28 = .ok (.aload_n 0, 1) := by decide +kernel
theorem dX11_spec_29 : decode cX11_spec 29 = .ok (.sipush 4211, 3) := by decide +kernel
theorem dX11_spec_32 : decode cX11_spec 32 = .ok (.invokevirtual 40, 3) := by decide +kernel
theorem dX11_spec_35 : decode cX11_spec 35 = .ok (.aload_n 0, 1) := by decide +kernel
theorem dX11_spec_36 : decode cX11_spec 36 = .ok (.invokevirtual 335, 3) := by decide +kernel
theorem dX11_spec_39 : decode cX11_spec 39 = .ok (.aload_n 0, 1) := by decide +kernel
theorem dX11_spec_40 : decode cX11_spec 40 = .ok (.invokevirtual 322, 3) := by decide +kernel
theorem dX11_spec_43 : decode cX11_spec 43 = .ok (.ifCond .eq 17, 3) := by decide +kernel
theorem dX11_spec_46 : decode cX11_spec 46 = .ok (.aload_n 0, 1) := by decide +kernel
theorem dX11_spec_47 : decode cX11_spec 47 = .ok (.getfield 307, 3) := by decide +kernel
theorem dX11_spec_50 : decode cX11_spec 50 = .ok (.ifCond .eq 10, 3) := by decide +kernel
theorem dX11_spec_53 : decode cX11_spec 53 = .ok (.aload_n 0, 1) := by decide +kernel
theorem dX11_spec_54 : decode cX11_spec 54 = .ok (.invokevirtual 355, 3) := by decide +kernel
theorem dX11_spec_57 : decode cX11_spec 57 = .ok (.goto (-18), 3) := by decide +kernel
theorem dX11_spec_60 : decode cX11_spec 60 = .ok (.aload_n 0, 1) := by decide +kernel
theorem dX11_spec_61 : decode cX11_spec 61 = .ok (.getfield 288, 3) := by decide +kernel
theorem dX11_spec_64 : decode cX11_spec 64 = .ok (.ifCond .ne 18, 3) := by decide +kernel
theorem dX11_spec_67 : decode cX11_spec 67 = .ok (.aload_n 0, 1) := by decide +kernel
theorem dX11_spec_68 : decode cX11_spec 68 = .ok (.sipush 4211, 3) := by decide +kernel
theorem dX11_spec_71 : decode cX11_spec 71 = .ok (.invokevirtual 203, 3) := by decide +kernel
theorem dX11_spec_74 : decode cX11_spec 74 = .ok (.ifCond .le 8, 3) := by decide +kernel
theorem dX11_spec_77 : decode cX11_spec 77 = .ok (.aload_n 0, 1) := by decide +kernel
theorem dX11_spec_78 : decode cX11_spec 78 = .ok (.iconst 5, 1) := by decide +kernel
theorem dX11_spec_79 : decode cX11_spec 79 = .ok (.putfield 288, 3) := by decide +kernel
theorem dX11_spec_82 : decode cX11_spec 82 = .ok (.aload_n 0, 1) := by decide +kernel
theorem dX11_spec_83 : decode cX11_spec 83 = .ok (.getfield 288, 3) := by decide +kernel
theorem dX11_spec_86 : decode cX11_spec 86 = .ok (.ifCond .le 5, 3) := by decide +kernel
theorem dX11_spec_89 : decode cX11_spec 89 = .ok (.iconst (-1), 1) := by decide +kernel
theorem dX11_spec_90 : decode cX11_spec 90 = .ok (.ireturn, 1) := by decide +kernel
theorem dX11_spec_91 : decode cX11_spec 91 = .ok (.aload_n 0, 1) := by decide +kernel
theorem dX11_spec_92 : decode cX11_spec 92 = .ok (.sipush 4211, 3) := by decide +kernel
theorem dX11_spec_95 : decode cX11_spec 95 = .ok (.iconst 0, 1) := by decide +kernel
theorem dX11_spec_96 : decode cX11_spec 96 = .ok (.bipush 46, 2) := by decide +kernel
theorem dX11_spec_98 : decode cX11_spec 98 = .ok (.invokevirtual 194, 3) := by decide +kernel
theorem dX11_spec_101 : decode cX11_spec 101 = .ok (.aload_n 0, 1) := by decide +kernel
theorem dX11_spec_102 : decode cX11_spec 102 = .ok (.invokevirtual 209, 3) := by decide +kernel
theorem dX11_spec_105 : decode cX11_spec 105 = .ok (.aload_n 0, 1) := by decide +kernel
theorem dX11_spec_106 : decode cX11_spec 106 = .ok (.iconst 0, 1) := by decide +kernel
theorem dX11_spec_107 : decode cX11_spec 107 = .ok (.putfield 191, 3) := by decide +kernel
theorem dX11_spec_110 : decode cX11_spec 110 = .ok (.aload_n 0, 1) := by decide +kernel
theorem dX11_spec_111 : decode cX11_spec 111 = .ok (.iconst 0, 1) := by decide +kernel
theorem dX11_spec_112 : decode cX11_spec 112 = .ok (.invokevirtual 135, 3) := by decide +kernel
theorem dX11_spec_115 : decode cX11_spec 115 = .ok (.ireturn, 1) := by decide +kernel
theorem dX11_image_0 : decode cX11_image 0 = .ok (.iload_n 1, 1) := by decide +kernel
theorem dX11_image_1 : decode cX11_image 1 = .ok (.iconst 0, 1) := by decide +kernel
theorem dX11_image_2 : decode cX11_image 2 = .ok (.iconst 2, 1) := by decide +kernel
theorem dX11_image_3 : decode cX11_image 3 = .ok (.invokestatic 52, 3) := by decide +kernel
theorem dX11_image_6 : decode cX11_image 6 = .ok (.ifCond .ne 5, 3) := by decide +kernel
theorem dX11_image_9 : decode cX11_image 9 = .ok (.iconst 0, 1) := by decide +kernel
theorem dX11_image_10 : decode cX11_image 10 = .ok (.ireturn, 1) := by decide +kernel
theorem dX11_image_11 : decode cX11_image 11 = .ok (.sipush 29505, 3) := by decide +kernel
theorem dX11_image_14 : decode cX11_image 14 = .ok (.sipush 4514, 3) := by decide +kernel
theorem dX11_image_17 : decode cX11_image 17 = .ok (.iload_n 1, 1) := by decide +kernel
theorem dX11_image_18 : decode cX11_image 18 = .ok (.imul, 1) := by decide +kernel
theorem dX11_image_19 : decode cX11_image 19 = .ok (.iadd, 1) := by decide +kernel
theorem dX11_image_20 : decode cX11_image 20 = .ok (.istore_n 2, 1) := by decide +kernel
theorem dX11_image_21 : decode cX11_image 21 = .ok (.aload_n 0, 1) := by decide +kernel
theorem dX11_image_22 : decode cX11_image 22 = .ok (.iconst 0, 1) := by decide +kernel
theorem dX11_image_23 : decode cX11_image 23 = .ok (.iload_n 2, 1) := by decide +kernel
theorem dX11_image_24 : decode cX11_image 24 = .ok (.sipush 4211, 3) := by decide +kernel
theorem dX11_image_27 : decode cX11_image 27 = .ok (.invokevirtual 194, 3) := by decide +kernel
theorem dX11_image_30 : decode cX11_image 30 = .ok (.iconst 0, 1) := by decide +kernel
theorem dX11_image_31 : decode cX11_image 31 = .ok (.istore_n 3, 1) := by decide +kernel
theorem dX11_image_32 : decode cX11_image 32 = .ok (.iload_n 3, 1) := by decide +kernel
theorem dX11_image_33 : decode cX11_image 33 = .ok (.sipush 300, 3) := by decide +kernel
theorem dX11_image_36 : decode cX11_image 36 = .ok (.if_icmp .ge 27, 3) := by decide +kernel
theorem dX11_image_39 : decode cX11_image 39 = .ok (.aload_n 0, 1) := by decide +kernel
theorem dX11_image_40 : decode cX11_image 40 = .ok (.getfield 8, 3) := by decide +kernel
theorem dX11_image_43 : decode cX11_image 43 = .ok (.iload_n 2, 1) := by decide +kernel
theorem dX11_image_44 : decode cX11_image 44 = .ok (.sipush 4211, 3) := by decide +kernel
theorem dX11_image_47 : decode cX11_image 47 = .ok (.iadd, 1) := by decide +kernel
theorem dX11_image_48 : decode cX11_image 48 = .ok (.iload_n 3, 1) := by decide +kernel
theorem dX11_image_49 : decode cX11_image 49 = .ok (.iadd, 1) := by decide +kernel
theorem dX11_image_50 : decode cX11_image 50 = .ok (.aload_n 0, 1) := by decide +kernel
theorem dX11_image_51 : decode cX11_image 51 = .ok (.getfield 14, 3) := by decide +kernel
theorem dX11_image_54 : decode cX11_image 54 = .ok (.iload_n 3, 1) := by decide +kernel
theorem dX11_image_55 : decode cX11_image 55 = .ok (.iaload, 1) := by decide +kernel
theorem dX11_image_56 : decode cX11_image 56 = .ok (.iastore, 1) := by decide +kernel
theorem dX11_image_57 : decode cX11_image 57 = .ok (.iinc 3 1, 3) := by decide +kernel
theorem dX11_image_60 : decode cX11_image 60 = .ok (.goto (-28), 3) := by decide +kernel
theorem dX11_image_63 : decode cX11_image 63 = .ok (.aload_n 0, 1) := by decide +kernel
theorem dX11_image_64 : decode cX11_image 64 = .ok (.getfield 8, 3) := by decide +kernel
theorem dX11_image_67 : decode cX11_image 67 = .ok (.iload_n 2, 1) := by decide +kernel
theorem dX11_image_68 : decode cX11_image 68 = .ok (.sipush 4211, 3) := by decide +kernel
theorem dX11_image_71 : decode cX11_image 71 = .ok (.iadd, 1) := by decide +kernel
theorem dX11_image_72 : decode cX11_image 72 = .ok (.sipush 300, 3) := by decide +kernel
theorem dX11_image_75 : decode cX11_image 75 = .ok (.iadd, 1) := by decide +kernel
theorem dX11_image_76 : decode cX11_image 76 = .ok (.aload_n 0, 1) := by decide +kernel
theorem dX11_image_77 : decode cX11_image 77 = .ok (.getfield 228, 3) := by decide +kernel
theorem dX11_image_80 : decode cX11_image 80 = .ok (.iastore, 1) := by decide +kernel
theorem dX11_image_81 : decode cX11_image 81 = .ok (.aload_n 0, 1) := by decide +kernel
theorem dX11_image_82 : decode cX11_image 82 = .ok (.getfield 8, 3) := by decide +kernel
theorem dX11_image_85 : decode cX11_image 85 = .ok (.iload_n 2, 1) := by decide +kernel
theorem dX11_image_86 : decode cX11_image 86 = .ok (.sipush 4211, 3) := by decide +kernel
theorem dX11_image_89 : decode cX11_image 89 = .ok (.iadd, 1) := by decide +kernel
theorem dX11_image_90 : decode cX11_image 90 = .ok (.sipush 300, 3) := by decide +kernel
theorem dX11_image_93 : decode cX11_image 93 = .ok (.iadd, 1) := by decide +kernel
theorem dX11_image_94 : decode cX11_image 94 = .ok (.iconst 1, 1) := by decide +kernel
theorem dX11_image_95 : decode cX11_image 95 = .ok (.iadd, 1) := by decide +kernel
theorem dX11_image_96 : decode cX11_image 96 = .ok (.aload_n 0, 1) := by decide +kernel
theorem dX11_image_97 : decode cX11_image 97 = .ok (.getfield 288, 3) := by decide +kernel
theorem dX11_image_100 : decode cX11_image 100 = .ok (.iastore, 1) := by decide +kernel
theorem dX11_image_101 : decode cX11_image 101 = .ok (.aload_n 0, 1) := by decide +kernel
theorem dX11_image_102 : decode cX11_image 102 = .ok (.getfield 8, 3) := by decide +kernel
theorem dX11_image_105 : decode cX11_image 105 = .ok (.iload_n 2, 1) := by decide +kernel
theorem dX11_image_106 : decode cX11_image 106 = .ok (.sipush 4211, 3) := by decide +kernel
theorem dX11_image_109 : decode cX11_image 109 = .ok (.iadd, 1) := by decide +kernel
theorem dX11_image_110 : decode cX11_image 110 = .ok (.sipush 300, 3) := by decide +kernel
theorem dX11_image_113 : decode cX11_image 113 = .ok (.iadd, 1) := by decide +kernel
theorem dX11_image_114 : decode cX11_image 114 = .ok (.iconst 2, 1) := by decide +kernel
theorem dX11_image_115 : decode cX11_image 115 = .ok (.iadd, 1) := by decide +kernel
theorem dX11_image_116 : decode cX11_image 116 = .ok (.aload_n 0, 1) := by decide +kernel
theorem dX11_image_117 : decode cX11_image 117 = .ok (.getfield 21, 3) := by decide +kernel
theorem dX11_image_120 : decode cX11_image 120 = .ok (.iastore, 1) := by decide +kernel
theorem dX11_image_121 : decode cX11_image 121 = .ok (.aload_n 0, 1) := by decide +kernel
theorem dX11_image_122 : decode cX11_image 122 = .ok (.getfield 17, 3) := by decide +kernel
theorem dX11_image_125 : decode cX11_image 125 = .ok (.iload_n 1, 1) := by decide +kernel
theorem dX11_image_126 : decode cX11_image 126 = .ok (.iconst 1, 1) := by decide +kernel
theorem dX11_image_127 : decode cX11_image 127 = .ok (.bastore, 1) := by decide +kernel
theorem dX11_image_128 : decode cX11_image 128 = .ok (.iconst 1, 1) := by decide +kernel
theorem dX11_image_129 : decode cX11_image 129 = .ok (.ireturn, 1) := by decide +kernel
theorem dX11_again_0 : decode cX11_again 0 = .ok (.iload_n 1, 1) := by decide +kernel
theorem dX11_again_1 : decode cX11_again 1 = .ok (.iconst 0, 1) := by decide +kernel
theorem dX11_again_2 : decode cX11_again 2 = .ok (.iconst 2, 1) := by decide +kernel
theorem dX11_again_3 : decode cX11_again 3 = .ok (.invokestatic 52, 3) := by decide +kernel
theorem dX11_again_6 : decode cX11_again 6 = .ok (.ifCond .eq 12, 3) := by decide +kernel
theorem dX11_again_9 : decode cX11_again 9 = .ok (.aload_n 0, 1) := by decide +kernel
theorem dX11_again_10 : decode cX11_again 10 = .ok (.getfield 17, 3) := by decide +kernel
theorem dX11_again_13 : decode cX11_again 13 = .ok (.iload_n 1, 1) := by decide +kernel
theorem dX11_again_14 : decode cX11_again 14 = .ok (.baload, 1) := by decide +kernel
theorem dX11_again_15 : decode cX11_again 15 = .ok (.ifCond .ne 5, 3) := by decide +kernel
theorem dX11_again_18 : decode cX11_again 18 = .ok (.iconst 0, 1) := by decide +kernel
theorem dX11_again_19 : decode cX11_again 19 = .ok (.ireturn, 1) := by decide +kernel
theorem dX11_again_20 : decode cX11_again 20 = .ok (.sipush 29505, 3) := by decide +kernel
theorem dX11_again_23 : decode cX11_again 23 = .ok (.sipush 4514, 3) := by decide +kernel
theorem dX11_again_26 : decode cX11_again 26 = .ok (.iload_n 1, 1) := by decide +kernel
theorem dX11_again_27 : decode cX11_again 27 = .ok (.imul, 1) := by decide +kernel
theorem dX11_again_28 : decode cX11_again 28 = .ok (.iadd, 1) := by decide +kernel
theorem dX11_again_29 : decode cX11_again 29 = .ok (.istore_n 2, 1) := by decide +kernel
theorem dX11_again_30 : decode cX11_again 30 = .ok (.aload_n 0, 1) := by decide +kernel
theorem dX11_again_31 : decode cX11_again 31 = .ok (.iload_n 2, 1) := by decide +kernel
theorem dX11_again_32 : decode cX11_again 32 = .ok (.iconst 0, 1) := by decide +kernel
theorem dX11_again_33 : decode cX11_again 33 = .ok (.sipush 4211, 3) := by decide +kernel
theorem dX11_again_36 : decode cX11_again 36 = .ok (.invokevirtual 194, 3) := by decide +kernel
theorem dX11_again_39 : decode cX11_again 39 = .ok (.iconst 0, 1) := by decide +kernel
theorem dX11_again_40 : decode cX11_again 40 = .ok (.istore_n 3, 1) := by decide +kernel
theorem dX11_again_41 : decode cX11_again 41 = .ok (.iload_n 3, 1) := by decide +kernel
theorem dX11_again_42 : decode cX11_again 42 = .ok (.sipush 300, 3) := by decide +kernel
theorem dX11_again_45 : decode cX11_again 45 = .ok (.if_icmp .ge 27, 3) := by decide +kernel
theorem dX11_again_48 : decode cX11_again 48 = .ok (.aload_n 0, 1) := by decide +kernel
theorem dX11_again_49 : decode cX11_again 49 = .ok (.getfield 14, 3) := by decide +kernel
theorem dX11_again_52 : decode cX11_again 52 = .ok (.iload_n 3, 1) := by decide +kernel
theorem dX11_again_53 : decode cX11_again 53 = .ok (.aload_n 0, 1) := by decide +kernel
theorem dX11_again_54 : decode cX11_again 54 = .ok (.getfield 8, 3) := by decide +kernel
theorem dX11_again_57 : decode cX11_again 57 = .ok (.iload_n 2, 1) := by decide +kernel
theorem dX11_again_58 : decode cX11_again 58 = .ok (.sipush 4211, 3) := by decide +kernel
theorem dX11_again_61 : decode cX11_again 61 = .ok (.iadd, 1) := by decide +kernel
theorem dX11_again_62 : decode cX11_again 62 = .ok (.iload_n 3, 1) := by decide +kernel
theorem dX11_again_63 : decode cX11_again 63 = .ok (.iadd, 1) := by decide +kernel
theorem dX11_again_64 : decode cX11_again 64 = .ok (.iaload, 1) := by decide +kernel
theorem dX11_again_65 : decode cX11_again 65 = .ok (.iastore, 1) := by decide +kernel
theorem dX11_again_66 : decode cX11_again 66 = .ok (.iinc 3 1, 3) := by decide +kernel
theorem dX11_again_69 : decode cX11_again 69 = .ok (.goto (-28), 3) := by decide +kernel
theorem dX11_again_72 : decode cX11_again 72 = .ok (.aload_n 0, 1) := by decide +kernel
theorem dX11_again_73 : decode cX11_again 73 = .ok (.aload_n 0, 1) := by decide +kernel
theorem dX11_again_74 : decode cX11_again 74 = .ok (.getfield 8, 3) := by decide +kernel
theorem dX11_again_77 : decode cX11_again 77 = .ok (.iload_n 2, 1) := by decide +kernel
theorem dX11_again_78 : decode cX11_again 78 = .ok (.sipush 4211, 3) := by decide +kernel
theorem dX11_again_81 : decode cX11_again 81 = .ok (.iadd, 1) := by decide +kernel
theorem dX11_again_82 : decode cX11_again 82 = .ok (.sipush 300, 3) := by decide +kernel
theorem dX11_again_85 : decode cX11_again 85 = .ok (.iadd, 1) := by decide +kernel
theorem dX11_again_86 : decode cX11_again 86 = .ok (.iaload, 1) := by decide +kernel
theorem dX11_again_87 : decode cX11_again 87 = .ok (.putfield 228, 3) := by decide +kernel
theorem dX11_again_90 : decode cX11_again 90 = .ok (.aload_n 0, 1) := by decide +kernel
theorem dX11_again_91 : decode cX11_again 91 = .ok (.aload_n 0, 1) := by decide +kernel
theorem dX11_again_92 : decode cX11_again 92 = .ok (.getfield 8, 3) := by decide +kernel
theorem dX11_again_95 : decode cX11_again 95 = .ok (.iload_n 2, 1) := by decide +kernel
theorem dX11_again_96 : decode cX11_again 96 = .ok (.sipush 4211, 3) := by decide +kernel
theorem dX11_again_99 : decode cX11_again 99 = .ok (.iadd, 1) := by decide +kernel
theorem dX11_again_100 : decode cX11_again 100 = .ok (.sipush 300, 3) := by decide +kernel
theorem dX11_again_103 : decode cX11_again 103 = .ok (.iadd, 1) := by decide +kernel
theorem dX11_again_104 : decode cX11_again 104 = .ok (.iconst 1, 1) := by decide +kernel
theorem dX11_again_105 : decode cX11_again 105 = .ok (.iadd, 1) := by decide +kernel
theorem dX11_again_106 : decode cX11_again 106 = .ok (.iaload, 1) := by decide +kernel
theorem dX11_again_107 : decode cX11_again 107 = .ok (.putfield 288, 3) := by decide +kernel
theorem dX11_again_110 : decode cX11_again 110 = .ok (.aload_n 0, 1) := by decide +kernel
theorem dX11_again_111 : decode cX11_again 111 = .ok (.aload_n 0, 1) := by decide +kernel
theorem dX11_again_112 : decode cX11_again 112 = .ok (.getfield 8, 3) := by decide +kernel
theorem dX11_again_115 : decode cX11_again 115 = .ok (.iload_n 2, 1) := by decide +kernel
theorem dX11_again_116 : decode cX11_again 116 = .ok (.sipush 4211, 3) := by decide +kernel
theorem dX11_again_119 : decode cX11_again 119 = .ok (.iadd, 1) := by decide +kernel
theorem dX11_again_120 : decode cX11_again 120 = .ok (.sipush 300, 3) := by decide +kernel
theorem dX11_again_123 : decode cX11_again 123 = .ok (.iadd, 1) := by decide +kernel
theorem dX11_again_124 : decode cX11_again 124 = .ok (.iconst 2, 1) := by decide +kernel
theorem dX11_again_125 : decode cX11_again 125 = .ok (.iadd, 1) := by decide +kernel
theorem dX11_again_126 : decode cX11_again 126 = .ok (.iaload, 1) := by decide +kernel
theorem dX11_again_127 : decode cX11_again 127 = .ok (.putfield 21, 3) := by decide +kernel
theorem dX11_again_130 : decode cX11_again 130 = .ok (.aload_n 0, 1) := by decide +kernel
theorem dX11_again_131 : decode cX11_again 131 = .ok (.iconst 0, 1) := by decide +kernel
theorem dX11_again_132 : decode cX11_again 132 = .ok (.putfield 191, 3) := by decide +kernel
theorem dX11_again_135 : decode cX11_again 135 = .ok (.iconst 1, 1) := by decide +kernel
theorem dX11_again_136 : decode cX11_again 136 = .ok (.ireturn, 1) := by decide +kernel
theorem dJ6_bitCount_0f7a4_0 : decode cJ6_bitCount_0f7a4 0 = .ok (.iload_n 0, 1) := by decide +kernel
theorem dJ6_bitCount_0f7a4_1 : decode cJ6_bitCount_0f7a4 1 = .ok (.iload_n 0, 1) := by decide +kernel
theorem dJ6_bitCount_0f7a4_2 : decode cJ6_bitCount_0f7a4 2 = .ok (.iconst 1, 1) := by decide +kernel
theorem dJ6_bitCount_0f7a4_3 : decode cJ6_bitCount_0f7a4 3 = .ok (.iushr, 1) := by decide +kernel
theorem dJ6_bitCount_0f7a4_4 : decode cJ6_bitCount_0f7a4 4 = .ok (.ldc_w 265, 3) := by decide +kernel
theorem dJ6_bitCount_0f7a4_7 : decode cJ6_bitCount_0f7a4 7 = .ok (.iand, 1) := by decide +kernel
theorem dJ6_bitCount_0f7a4_8 : decode cJ6_bitCount_0f7a4 8 = .ok (.isub, 1) := by decide +kernel
theorem dJ6_bitCount_0f7a4_9 : decode cJ6_bitCount_0f7a4 9 = .ok (.istore_n 0, 1) := by decide +kernel
theorem dJ6_bitCount_0f7a4_10 : decode cJ6_bitCount_0f7a4 10 = .ok (.iload_n 0, 1) := by decide +kernel
theorem dJ6_bitCount_0f7a4_11 : decode cJ6_bitCount_0f7a4 11 = .ok (.ldc_w 266, 3) := by decide +kernel
theorem dJ6_bitCount_0f7a4_14 : decode cJ6_bitCount_0f7a4 14 = .ok (.iand, 1) := by decide +kernel
theorem dJ6_bitCount_0f7a4_15 : decode cJ6_bitCount_0f7a4 15 = .ok (.iload_n 0, 1) := by decide +kernel
theorem dJ6_bitCount_0f7a4_16 : decode cJ6_bitCount_0f7a4 16 = .ok (.iconst 2, 1) := by decide +kernel
theorem dJ6_bitCount_0f7a4_17 : decode cJ6_bitCount_0f7a4 17 = .ok (.iushr, 1) := by decide +kernel
theorem dJ6_bitCount_0f7a4_18 : decode cJ6_bitCount_0f7a4 18 = .ok (.ldc_w 266, 3) := by decide +kernel
theorem dJ6_bitCount_0f7a4_21 : decode cJ6_bitCount_0f7a4 21 = .ok (.iand, 1) := by decide +kernel
theorem dJ6_bitCount_0f7a4_22 : decode cJ6_bitCount_0f7a4 22 = .ok (.iadd, 1) := by decide +kernel
theorem dJ6_bitCount_0f7a4_23 : decode cJ6_bitCount_0f7a4 23 = .ok (.istore_n 0, 1) := by decide +kernel
theorem dJ6_bitCount_0f7a4_24 : decode cJ6_bitCount_0f7a4 24 = .ok (.iload_n 0, 1) := by decide +kernel
theorem dJ6_bitCount_0f7a4_25 : decode cJ6_bitCount_0f7a4 25 = .ok (.iload_n 0, 1) := by decide +kernel
theorem dJ6_bitCount_0f7a4_26 : decode cJ6_bitCount_0f7a4 26 = .ok (.iconst 4, 1) := by decide +kernel
theorem dJ6_bitCount_0f7a4_27 : decode cJ6_bitCount_0f7a4 27 = .ok (.iushr, 1) := by decide +kernel
theorem dJ6_bitCount_0f7a4_28 : decode cJ6_bitCount_0f7a4 28 = .ok (.iadd, 1) := by decide +kernel
theorem dJ6_bitCount_0f7a4_29 : decode cJ6_bitCount_0f7a4 29 = .ok (.ldc_w 267, 3) := by decide +kernel
theorem dJ6_bitCount_0f7a4_32 : decode cJ6_bitCount_0f7a4 32 = .ok (.iand, 1) := by decide +kernel
theorem dJ6_bitCount_0f7a4_33 : decode cJ6_bitCount_0f7a4 33 = .ok (.istore_n 0, 1) := by decide +kernel
theorem dJ6_bitCount_0f7a4_34 : decode cJ6_bitCount_0f7a4 34 = .ok (.iload_n 0, 1) := by decide +kernel
theorem dJ6_bitCount_0f7a4_35 : decode cJ6_bitCount_0f7a4 35 = .ok (.iload_n 0, 1) := by decide +kernel
theorem dJ6_bitCount_0f7a4_36 : decode cJ6_bitCount_0f7a4 36 = .ok (.bipush 8, 2) := by decide +kernel
theorem dJ6_bitCount_0f7a4_38 : decode cJ6_bitCount_0f7a4 38 = .ok (.iushr, 1) := by decide +kernel
theorem dJ6_bitCount_0f7a4_39 : decode cJ6_bitCount_0f7a4 39 = .ok (.iadd, 1) := by decide +kernel
theorem dJ6_bitCount_0f7a4_40 : decode cJ6_bitCount_0f7a4 40 = .ok (.istore_n 0, 1) := by decide +kernel
theorem dJ6_bitCount_0f7a4_41 : decode cJ6_bitCount_0f7a4 41 = .ok (.iload_n 0, 1) := by decide +kernel
theorem dJ6_bitCount_0f7a4_42 : decode cJ6_bitCount_0f7a4 42 = .ok (.iload_n 0, 1) := by decide +kernel
theorem dJ6_bitCount_0f7a4_43 : decode cJ6_bitCount_0f7a4 43 = .ok (.bipush 16, 2) := by decide +kernel
theorem dJ6_bitCount_0f7a4_45 : decode cJ6_bitCount_0f7a4 45 = .ok (.iushr, 1) := by decide +kernel
theorem dJ6_bitCount_0f7a4_46 : decode cJ6_bitCount_0f7a4 46 = .ok (.iadd, 1) := by decide +kernel
theorem dJ6_bitCount_0f7a4_47 : decode cJ6_bitCount_0f7a4 47 = .ok (.istore_n 0, 1) := by decide +kernel
theorem dJ6_bitCount_0f7a4_48 : decode cJ6_bitCount_0f7a4 48 = .ok (.iload_n 0, 1) := by decide +kernel
theorem dJ6_bitCount_0f7a4_49 : decode cJ6_bitCount_0f7a4 49 = .ok (.bipush 63, 2) := by decide +kernel
theorem dJ6_bitCount_0f7a4_51 : decode cJ6_bitCount_0f7a4 51 = .ok (.iand, 1) := by decide +kernel
theorem dJ6_bitCount_0f7a4_52 : decode cJ6_bitCount_0f7a4 52 = .ok (.ireturn, 1) := by decide +kernel
theorem dJ9_abs_0f7a4_0 : decode cJ9_abs_0f7a4 0 = .ok (.iload_n 0, 1) := by decide +kernel
theorem dJ9_abs_0f7a4_1 : decode cJ9_abs_0f7a4 1 = .ok (.ifCond .ge 8, 3) := by decide +kernel
theorem dJ9_abs_0f7a4_4 : decode cJ9_abs_0f7a4 4 = .ok (.iload_n 0, 1) := by decide +kernel
theorem dJ9_abs_0f7a4_5 : decode cJ9_abs_0f7a4 5 = .ok (.ineg, 1) := by decide +kernel
theorem dJ9_abs_0f7a4_6 : decode cJ9_abs_0f7a4 6 = .ok (.goto 4, 3) := by decide +kernel
theorem dJ9_abs_0f7a4_9 : decode cJ9_abs_0f7a4 9 = .ok (.iload_n 0, 1) := by decide +kernel
theorem dJ9_abs_0f7a4_10 : decode cJ9_abs_0f7a4 10 = .ok (.ireturn, 1) := by decide +kernel
theorem dJ9_max_7cf53_0 : decode cJ9_max_7cf53 0 = .ok (.iload_n 0, 1) := by decide +kernel
theorem dJ9_max_7cf53_1 : decode cJ9_max_7cf53 1 = .ok (.iload_n 1, 1) := by decide +kernel
theorem dJ9_max_7cf53_2 : decode cJ9_max_7cf53 2 = .ok (.if_icmp .lt 7, 3) := by decide +kernel
theorem dJ9_max_7cf53_5 : decode cJ9_max_7cf53 5 = .ok (.iload_n 0, 1) := by decide +kernel
theorem dJ9_max_7cf53_6 : decode cJ9_max_7cf53 6 = .ok (.goto 4, 3) := by decide +kernel
theorem dJ9_max_7cf53_9 : decode cJ9_max_7cf53 9 = .ok (.iload_n 1, 1) := by decide +kernel
theorem dJ9_max_7cf53_10 : decode cJ9_max_7cf53 10 = .ok (.ireturn, 1) := by decide +kernel
theorem dJ9_min_7cf53_0 : decode cJ9_min_7cf53 0 = .ok (.iload_n 0, 1) := by decide +kernel
theorem dJ9_min_7cf53_1 : decode cJ9_min_7cf53 1 = .ok (.iload_n 1, 1) := by decide +kernel
theorem dJ9_min_7cf53_2 : decode cJ9_min_7cf53 2 = .ok (.if_icmp .gt 7, 3) := by decide +kernel
theorem dJ9_min_7cf53_5 : decode cJ9_min_7cf53 5 = .ok (.iload_n 0, 1) := by decide +kernel
theorem dJ9_min_7cf53_6 : decode cJ9_min_7cf53 6 = .ok (.goto 4, 3) := by decide +kernel
theorem dJ9_min_7cf53_9 : decode cJ9_min_7cf53 9 = .ok (.iload_n 1, 1) := by decide +kernel
theorem dJ9_min_7cf53_10 : decode cJ9_min_7cf53 10 = .ok (.ireturn, 1) := by decide +kernel
theorem dJ0_length_8abf5_0 : decode cJ0_length_8abf5 0 = .ok (.aload_n 0, 1) := by decide +kernel
theorem dJ0_length_8abf5_1 : decode cJ0_length_8abf5 1 = .ok (.getfield 9, 3) := by decide +kernel
theorem dJ0_length_8abf5_4 : decode cJ0_length_8abf5 4 = .ok (.arraylength, 1) := by decide +kernel
theorem dJ0_length_8abf5_5 : decode cJ0_length_8abf5 5 = .ok (.aload_n 0, 1) := by decide +kernel
theorem dJ0_length_8abf5_6 : decode cJ0_length_8abf5 6 = .ok (.invokevirtual 335, 3) := by decide +kernel
theorem dJ0_length_8abf5_9 : decode cJ0_length_8abf5 9 = .ok (.ishr, 1) := by decide +kernel
theorem dJ0_length_8abf5_10 : decode cJ0_length_8abf5 10 = .ok (.ireturn, 1) := by decide +kernel
theorem dJ0_charAt_5068e_0 : decode cJ0_charAt_5068e 0 = .ok (.aload_n 0, 1) := by decide +kernel
theorem dJ0_charAt_5068e_1 : decode cJ0_charAt_5068e 1 = .ok (.invokevirtual 492, 3) := by decide +kernel
theorem dJ0_charAt_5068e_4 : decode cJ0_charAt_5068e 4 = .ok (.ifCond .eq 12, 3) := by decide +kernel
theorem dJ0_charAt_5068e_7 : decode cJ0_charAt_5068e 7 = .ok (.aload_n 0, 1) := by decide +kernel
theorem dJ0_charAt_5068e_8 : decode cJ0_charAt_5068e 8 = .ok (.getfield 9, 3) := by decide +kernel
theorem dJ0_charAt_5068e_11 : decode cJ0_charAt_5068e 11 = .ok (.iload_n 1, 1) := by decide +kernel
theorem dJ0_charAt_5068e_12 : decode cJ0_charAt_5068e 12 = .ok (.invokestatic 495, 3) := by decide +kernel
theorem dJ0_charAt_5068e_15 : decode cJ0_charAt_5068e 15 = .ok (.ireturn, 1) := by decide +kernel
theorem dJ0_charAt_5068e_16 : decode cJ0_charAt_5068e 16 = .ok (.aload_n 0, 1) := by decide +kernel
theorem dJ0_charAt_5068e_17 : decode cJ0_charAt_5068e 17 = .ok (.getfield 9, 3) := by decide +kernel
theorem dJ0_charAt_5068e_20 : decode cJ0_charAt_5068e 20 = .ok (.iload_n 1, 1) := by decide +kernel
theorem dJ0_charAt_5068e_21 : decode cJ0_charAt_5068e 21 = .ok (.invokestatic 498, 3) := by decide +kernel
theorem dJ0_charAt_5068e_24 : decode cJ0_charAt_5068e 24 = .ok (.ireturn, 1) := by decide +kernel
theorem dJ0_coder_7d493_0 : decode cJ0_coder_7d493 0 = .ok (.getstatic 38, 3) := by decide +kernel
theorem dJ0_coder_7d493_3 : decode cJ0_coder_7d493 3 = .ok (.ifCond .eq 10, 3) := by decide +kernel
theorem dJ0_coder_7d493_6 : decode cJ0_coder_7d493 6 = .ok (.aload_n 0, 1) := by decide +kernel
theorem dJ0_coder_7d493_7 : decode cJ0_coder_7d493 7 = .ok (.getfield 15, 3) := by decide +kernel
theorem dJ0_coder_7d493_10 : decode cJ0_coder_7d493 10 = .ok (.goto 4, 3) := by decide +kernel
theorem dJ0_coder_7d493_13 : decode cJ0_coder_7d493 13 = .ok (.iconst 1, 1) := by decide +kernel
theorem dJ0_coder_7d493_14 : decode cJ0_coder_7d493 14 = .ok (.ireturn, 1) := by decide +kernel
theorem dJ0_isLatin1_aae02_0 : decode cJ0_isLatin1_aae02 0 = .ok (.getstatic 38, 3) := by decide +kernel
theorem dJ0_isLatin1_aae02_3 : decode cJ0_isLatin1_aae02 3 = .ok (.ifCond .eq 14, 3) := by decide +kernel
theorem dJ0_isLatin1_aae02_6 : decode cJ0_isLatin1_aae02 6 = .ok (.aload_n 0, 1) := by decide +kernel
theorem dJ0_isLatin1_aae02_7 : decode cJ0_isLatin1_aae02 7 = .ok (.getfield 15, 3) := by decide +kernel
theorem dJ0_isLatin1_aae02_10 : decode cJ0_isLatin1_aae02 10 = .ok (.ifCond .ne 7, 3) := by decide +kernel
theorem dJ0_isLatin1_aae02_13 : decode cJ0_isLatin1_aae02 13 = .ok (.iconst 1, 1) := by decide +kernel
theorem dJ0_isLatin1_aae02_14 : decode cJ0_isLatin1_aae02 14 = .ok (.goto 4, 3) := by decide +kernel
theorem dJ0_isLatin1_aae02_17 : decode cJ0_isLatin1_aae02 17 = .ok (.iconst 0, 1) := by decide +kernel
theorem dJ0_isLatin1_aae02_18 : decode cJ0_isLatin1_aae02 18 = .ok (.ireturn, 1) := by decide +kernel
theorem dJ0_checkIndex_df160_0 : decode cJ0_checkIndex_df160 0 = .ok (.iload_n 0, 1) := by decide +kernel
theorem dJ0_checkIndex_df160_1 : decode cJ0_checkIndex_df160 1 = .ok (.iload_n 1, 1) := by decide +kernel
theorem dJ0_checkIndex_df160_2 : decode cJ0_checkIndex_df160 2 = .ok (.getstatic 1053, 3) := by decide +kernel
theorem dJ0_checkIndex_df160_5 : decode cJ0_checkIndex_df160 5 = .ok (.invokestatic 1059, 3) := by decide +kernel
theorem dJ0_checkIndex_df160_8 : decode cJ0_checkIndex_df160 8 = .ok (.pop, 1) := by decide +kernel
theorem dJ0_checkIndex_df160_9 : decode cJ0_checkIndex_df160 9 = .ok (.return_, 1) := by decide +kernel
theorem dJ1_charAt_3b067_0 : decode cJ1_charAt_3b067 0 = .ok (.iload_n 1, 1) := by decide +kernel
theorem dJ1_charAt_3b067_1 : decode cJ1_charAt_3b067 1 = .ok (.aload_n 0, 1) := by decide +kernel
theorem dJ1_charAt_3b067_2 : decode cJ1_charAt_3b067 2 = .ok (.arraylength, 1) := by decide +kernel
theorem dJ1_charAt_3b067_3 : decode cJ1_charAt_3b067 3 = .ok (.invokestatic 9, 3) := by decide +kernel
theorem dJ1_charAt_3b067_6 : decode cJ1_charAt_3b067 6 = .ok (.aload_n 0, 1) := by decide +kernel
theorem dJ1_charAt_3b067_7 : decode cJ1_charAt_3b067 7 = .ok (.iload_n 1, 1) := by decide +kernel
theorem dJ1_charAt_3b067_8 : decode cJ1_charAt_3b067 8 = .ok (.baload, 1) := by decide +kernel
theorem dJ1_charAt_3b067_9 : decode cJ1_charAt_3b067 9 = .ok (.sipush 255, 3) := by decide +kernel
theorem dJ1_charAt_3b067_12 : decode cJ1_charAt_3b067 12 = .ok (.iand, 1) := by decide +kernel
theorem dJ1_charAt_3b067_13 : decode cJ1_charAt_3b067 13 = .ok (.i2c, 1) := by decide +kernel
theorem dJ1_charAt_3b067_14 : decode cJ1_charAt_3b067 14 = .ok (.ireturn, 1) := by decide +kernel
theorem dJ2_getChar_3b067_0 : decode cJ2_getChar_3b067 0 = .ok (.getstatic 44, 3) := by decide +kernel
theorem dJ2_getChar_3b067_3 : decode cJ2_getChar_3b067 3 = .ok (.ifCond .ne 25, 3) := by decide +kernel
theorem dJ2_getChar_3b067_6 : decode cJ2_getChar_3b067 6 = .ok (.iload_n 1, 1) := by decide +kernel
theorem dJ2_getChar_3b067_7 : decode cJ2_getChar_3b067 7 = .ok (.ifCond .lt 11, 3) := by decide +kernel
theorem dJ2_getChar_3b067_10 : decode cJ2_getChar_3b067 10 = .ok (.iload_n 1, 1) := by decide +kernel
theorem dJ2_getChar_3b067_11 : decode cJ2_getChar_3b067 11 = .ok (.aload_n 0, 1) := by decide +kernel
theorem dJ2_getChar_3b067_12 : decode cJ2_getChar_3b067 12 = .ok (.invokestatic 48, 3) := by decide +kernel
theorem dJ2_getChar_3b067_15 : decode cJ2_getChar_3b067 15 = .ok (.if_icmp .lt 13, 3) := by decide +kernel
theorem dJ2_getChar_3b067_18 : decode cJ2_getChar_3b067 18 = .ok (.new 52, 3) := by decide +kernel
theorem dJ2_getChar_3b067_21 : decode cJ2_getChar_3b067 21 = .ok (.dup, 1) := by decide +kernel
theorem dJ2_getChar_3b067_22 : decode cJ2_getChar_3b067 22 = .ok (.ldc 54, 2) := by decide +kernel
theorem dJ2_getChar_3b067_24 : decode cJ2_getChar_3b067 24 = .ok (.invokespecial 56, 3) := by decide +kernel
theorem dJ2_getChar_3b067_27 : decode cJ2_getChar_3b067 27 = .ok (.athrow, 1) := by decide +kernel
theorem dJ2_getChar_3b067_28 : decode cJ2_getChar_3b067 28 = .ok (.iload_n 1, 1) := by decide +kernel
theorem dJ2_getChar_3b067_29 : decode cJ2_getChar_3b067 29 = .ok (.iconst 1, 1) := by decide +kernel
theorem dJ2_getChar_3b067_30 : decode cJ2_getChar_3b067 30 = .ok (.ishl, 1) := by decide +kernel
theorem dJ2_getChar_3b067_31 : decode cJ2_getChar_3b067 31 = .ok (.istore_n 1, 1) := by decide +kernel
theorem dJ2_getChar_3b067_32 : decode cJ2_getChar_3b067 32 = .ok (.aload_n 0, 1) := by decide +kernel
theorem dJ2_getChar_3b067_33 : decode cJ2_getChar_3b067 33 = .ok (.iload_n 1, 1) := by decide +kernel
theorem dJ2_getChar_3b067_34 : decode cJ2_getChar_3b067 34 = .ok (.iinc 1 1, 3) := by decide +kernel
theorem dJ2_getChar_3b067_37 : decode cJ2_getChar_3b067 37 = .ok (.baload, 1) := by decide +kernel
theorem dJ2_getChar_3b067_38 : decode cJ2_getChar_3b067 38 = .ok (.sipush 255, 3) := by decide +kernel
theorem dJ2_getChar_3b067_41 : decode cJ2_getChar_3b067 41 = .ok (.iand, 1) := by decide +kernel
theorem dJ2_getChar_3b067_42 : decode cJ2_getChar_3b067 42 = .ok (.getstatic 59, 3) := by decide +kernel
theorem dJ2_getChar_3b067_45 : decode cJ2_getChar_3b067 45 = .ok (.ishl, 1) := by decide +kernel
theorem dJ2_getChar_3b067_46 : decode cJ2_getChar_3b067 46 = .ok (.aload_n 0, 1) := by decide +kernel
theorem dJ2_getChar_3b067_47 : decode cJ2_getChar_3b067 47 = .ok (.iload_n 1, 1) := by decide +kernel
theorem dJ2_getChar_3b067_48 : decode cJ2_getChar_3b067 48 = .ok (.baload, 1) := by decide +kernel
theorem dJ2_getChar_3b067_49 : decode cJ2_getChar_3b067 49 = .ok (.sipush 255, 3) := by decide +kernel
theorem dJ2_getChar_3b067_52 : decode cJ2_getChar_3b067 52 = .ok (.iand, 1) := by decide +kernel
theorem dJ2_getChar_3b067_53 : decode cJ2_getChar_3b067 53 = .ok (.getstatic 63, 3) := by decide +kernel
theorem dJ2_getChar_3b067_56 : decode cJ2_getChar_3b067 56 = .ok (.ishl, 1) := by decide +kernel
theorem dJ2_getChar_3b067_57 : decode cJ2_getChar_3b067 57 = .ok (.ior, 1) := by decide +kernel
theorem dJ2_getChar_3b067_58 : decode cJ2_getChar_3b067 58 = .ok (.i2c, 1) := by decide +kernel
theorem dJ2_getChar_3b067_59 : decode cJ2_getChar_3b067 59 = .ok (.ireturn, 1) := by decide +kernel
theorem dJ2_length_9d52b_0 : decode cJ2_length_9d52b 0 = .ok (.aload_n 0, 1) := by decide +kernel
theorem dJ2_length_9d52b_1 : decode cJ2_length_9d52b 1 = .ok (.arraylength, 1) := by decide +kernel
theorem dJ2_length_9d52b_2 : decode cJ2_length_9d52b 2 = .ok (.iconst 1, 1) := by decide +kernel
theorem dJ2_length_9d52b_3 : decode cJ2_length_9d52b 3 = .ok (.ishr, 1) := by decide +kernel
theorem dJ2_length_9d52b_4 : decode cJ2_length_9d52b 4 = .ok (.ireturn, 1) := by decide +kernel
theorem dJ2_charAt_3b067_0 : decode cJ2_charAt_3b067 0 = .ok (.iload_n 1, 1) := by decide +kernel
theorem dJ2_charAt_3b067_1 : decode cJ2_charAt_3b067 1 = .ok (.aload_n 0, 1) := by decide +kernel
theorem dJ2_charAt_3b067_2 : decode cJ2_charAt_3b067 2 = .ok (.invokestatic 67, 3) := by decide +kernel
theorem dJ2_charAt_3b067_5 : decode cJ2_charAt_3b067 5 = .ok (.aload_n 0, 1) := by decide +kernel
theorem dJ2_charAt_3b067_6 : decode cJ2_charAt_3b067 6 = .ok (.iload_n 1, 1) := by decide +kernel
theorem dJ2_charAt_3b067_7 : decode cJ2_charAt_3b067 7 = .ok (.invokestatic 71, 3) := by decide +kernel
theorem dJ2_charAt_3b067_10 : decode cJ2_charAt_3b067 10 = .ok (.ireturn, 1) := by decide +kernel
theorem dJ2_checkIndex_2214a_0 : decode cJ2_checkIndex_2214a 0 = .ok (.iload_n 0, 1) := by decide +kernel
theorem dJ2_checkIndex_2214a_1 : decode cJ2_checkIndex_2214a 1 = .ok (.aload_n 1, 1) := by decide +kernel
theorem dJ2_checkIndex_2214a_2 : decode cJ2_checkIndex_2214a 2 = .ok (.invokestatic 48, 3) := by decide +kernel
theorem dJ2_checkIndex_2214a_5 : decode cJ2_checkIndex_2214a 5 = .ok (.invokestatic 414, 3) := by decide +kernel
theorem dJ2_checkIndex_2214a_8 : decode cJ2_checkIndex_2214a 8 = .ok (.return_, 1) := by decide +kernel
theorem dJ7_fill_53178_0 : decode cJ7_fill_53178 0 = .ok (.iconst 0, 1) := by decide +kernel
theorem dJ7_fill_53178_1 : decode cJ7_fill_53178 1 = .ok (.istore_n 2, 1) := by decide +kernel
theorem dJ7_fill_53178_2 : decode cJ7_fill_53178 2 = .ok (.aload_n 0, 1) := by decide +kernel
theorem dJ7_fill_53178_3 : decode cJ7_fill_53178 3 = .ok (.arraylength, 1) := by decide +kernel
theorem dJ7_fill_53178_4 : decode cJ7_fill_53178 4 = .ok (.istore_n 3, 1) := by decide +kernel
theorem dJ7_fill_53178_5 : decode cJ7_fill_53178 5 = .ok (.iload_n 2, 1) := by decide +kernel
theorem dJ7_fill_53178_6 : decode cJ7_fill_53178 6 = .ok (.iload_n 3, 1) := by decide +kernel
theorem dJ7_fill_53178_7 : decode cJ7_fill_53178 7 = .ok (.if_icmp .ge 13, 3) := by decide +kernel
theorem dJ7_fill_53178_10 : decode cJ7_fill_53178 10 = .ok (.aload_n 0, 1) := by decide +kernel
theorem dJ7_fill_53178_11 : decode cJ7_fill_53178 11 = .ok (.iload_n 2, 1) := by decide +kernel
theorem dJ7_fill_53178_12 : decode cJ7_fill_53178 12 = .ok (.iload_n 1, 1) := by decide +kernel
theorem dJ7_fill_53178_13 : decode cJ7_fill_53178 13 = .ok (.iastore, 1) := by decide +kernel
theorem dJ7_fill_53178_14 : decode cJ7_fill_53178 14 = .ok (.iinc 2 1, 3) := by decide +kernel
theorem dJ7_fill_53178_17 : decode cJ7_fill_53178 17 = .ok (.goto (-12), 3) := by decide +kernel
theorem dJ7_fill_53178_20 : decode cJ7_fill_53178 20 = .ok (.return_, 1) := by decide +kernel
theorem dJ3_checkIndex_8e157_0 : decode cJ3_checkIndex_8e157 0 = .ok (.iload_n 0, 1) := by decide +kernel
theorem dJ3_checkIndex_8e157_1 : decode cJ3_checkIndex_8e157 1 = .ok (.ifCond .lt 8, 3) := by decide +kernel
theorem dJ3_checkIndex_8e157_4 : decode cJ3_checkIndex_8e157 4 = .ok (.iload_n 0, 1) := by decide +kernel
theorem dJ3_checkIndex_8e157_5 : decode cJ3_checkIndex_8e157 5 = .ok (.iload_n 1, 1) := by decide +kernel
theorem dJ3_checkIndex_8e157_6 : decode cJ3_checkIndex_8e157 6 = .ok (.if_icmp .lt 10, 3) := by decide +kernel
theorem dJ3_checkIndex_8e157_9 : decode cJ3_checkIndex_8e157 9 = .ok (.aload_n 2, 1) := by decide +kernel
theorem dJ3_checkIndex_8e157_10 : decode cJ3_checkIndex_8e157 10 = .ok (.iload_n 0, 1) := by decide +kernel
theorem dJ3_checkIndex_8e157_11 : decode cJ3_checkIndex_8e157 11 = .ok (.iload_n 1, 1) := by decide +kernel
theorem dJ3_checkIndex_8e157_12 : decode cJ3_checkIndex_8e157 12 = .ok (.invokestatic 95, 3) := by decide +kernel
theorem dJ3_checkIndex_8e157_15 : decode cJ3_checkIndex_8e157 15 = .ok (.athrow, 1) := by decide +kernel
theorem dJ3_checkIndex_8e157_16 : decode cJ3_checkIndex_8e157 16 = .ok (.iload_n 0, 1) := by decide +kernel
theorem dJ3_checkIndex_8e157_17 : decode cJ3_checkIndex_8e157 17 = .ok (.ireturn, 1) := by decide +kernel
theorem dL_law_0 : decode cL_law 0 = .ok (.new 7, 3) := by decide +kernel
theorem dL_law_3 : decode cL_law 3 = .ok (.dup, 1) := by decide +kernel
theorem dL_law_4 : decode cL_law 4 = .ok (.invokespecial 9, 3) := by decide +kernel
theorem dL_law_7 : decode cL_law 7 = .ok (.astore_n 1, 1) := by decide +kernel
theorem dL_law_8 : decode cL_law 8 = .ok (.new 10, 3) := by decide +kernel
theorem dL_law_11 : decode cL_law 11 = .ok (.dup, 1) := by decide +kernel
theorem dL_law_12 : decode cL_law 12 = .ok (.invokespecial 12, 3) := by decide +kernel
theorem dL_law_15 : decode cL_law 15 = .ok (.astore_n 2, 1) := by decide +kernel
theorem dL_law_16 : decode cL_law 16 = .ok (.iconst 0, 1) := by decide +kernel
theorem dL_law_17 : decode cL_law 17 = .ok (.istore_n 3, 1) := by decide +kernel
theorem dL_law_18 : decode cL_law 18 = .ok (.iload_n 3, 1) := by decide +kernel
theorem dL_law_19 : decode cL_law 19 = .ok (.aload_n 0, 1) := by decide +kernel
theorem dL_law_20 : decode cL_law 20 = .ok (.arraylength, 1) := by decide +kernel
theorem dL_law_21 : decode cL_law 21 = .ok (.bipush 6, 2) := by decide +kernel
theorem dL_law_23 : decode cL_law 23 = .ok (.isub, 1) := by decide +kernel
theorem dL_law_24 : decode cL_law 24 = .ok (.if_icmp .gt 830, 3) := by decide +kernel
theorem dL_law_27 : decode cL_law 27 = .ok (.aload_n 0, 1) := by decide +kernel
theorem dL_law_28 : decode cL_law 28 = .ok (.iload_n 3, 1) := by decide +kernel
theorem dL_law_29 : decode cL_law 29 = .ok (.iaload, 1) := by decide +kernel
theorem dL_law_30 : decode cL_law 30 = .ok (.bipush 31, 2) := by decide +kernel
theorem dL_law_32 : decode cL_law 32 = .ok (.iand, 1) := by decide +kernel
theorem dL_law_33 : decode cL_law 33 = .ok (.tableswitch 815 0 23 #[111, 174, 197, 210, 233, 266, 309, 342, 375, 398, 411, 434, 467, 490, 539, 572, 615, 638, 677, 710, 723, 756, 769, 792], 111) := by decide +kernel
theorem dL_law_144 : decode cL_law 144 = .ok (.aload_n 1, 1) := by decide +kernel
theorem dL_law_145 : decode cL_law 145 = .ok (.aload_n 0, 1) := by decide +kernel
theorem dL_law_146 : decode cL_law 146 = .ok (.iload_n 3, 1) := by decide +kernel
theorem dL_law_147 : decode cL_law 147 = .ok (.iconst 1, 1) := by decide +kernel
theorem dL_law_148 : decode cL_law 148 = .ok (.iadd, 1) := by decide +kernel
theorem dL_law_149 : decode cL_law 149 = .ok (.iaload, 1) := by decide +kernel
theorem dL_law_150 : decode cL_law 150 = .ok (.aload_n 0, 1) := by decide +kernel
theorem dL_law_151 : decode cL_law 151 = .ok (.iload_n 3, 1) := by decide +kernel
theorem dL_law_152 : decode cL_law 152 = .ok (.iconst 2, 1) := by decide +kernel
theorem dL_law_153 : decode cL_law 153 = .ok (.iadd, 1) := by decide +kernel
theorem dL_law_154 : decode cL_law 154 = .ok (.iaload, 1) := by decide +kernel
theorem dL_law_155 : decode cL_law 155 = .ok (.aload_n 0, 1) := by decide +kernel
theorem dL_law_156 : decode cL_law 156 = .ok (.iload_n 3, 1) := by decide +kernel
theorem dL_law_157 : decode cL_law 157 = .ok (.iconst 3, 1) := by decide +kernel
theorem dL_law_158 : decode cL_law 158 = .ok (.iadd, 1) := by decide +kernel
theorem dL_law_159 : decode cL_law 159 = .ok (.iaload, 1) := by decide +kernel
theorem dL_law_160 : decode cL_law 160 = .ok (.aload_n 0, 1) := by decide +kernel
theorem dL_law_161 : decode cL_law 161 = .ok (.iload_n 3, 1) := by decide +kernel
theorem dL_law_162 : decode cL_law 162 = .ok (.iconst 4, 1) := by decide +kernel
theorem dL_law_163 : decode cL_law 163 = .ok (.iadd, 1) := by decide +kernel
theorem dL_law_164 : decode cL_law 164 = .ok (.iaload, 1) := by decide +kernel
theorem dL_law_165 : decode cL_law 165 = .ok (.aload_n 0, 1) := by decide +kernel
theorem dL_law_166 : decode cL_law 166 = .ok (.iload_n 3, 1) := by decide +kernel
theorem dL_law_167 : decode cL_law 167 = .ok (.iconst 5, 1) := by decide +kernel
theorem dL_law_168 : decode cL_law 168 = .ok (.iadd, 1) := by decide +kernel
theorem dL_law_169 : decode cL_law 169 = .ok (.iaload, 1) := by decide +kernel
theorem dL_law_170 : decode cL_law 170 = .ok (.invokevirtual 13, 3) := by decide +kernel
theorem dL_law_173 : decode cL_law 173 = .ok (.aload_n 2, 1) := by decide +kernel
theorem dL_law_174 : decode cL_law 174 = .ok (.aload_n 0, 1) := by decide +kernel
theorem dL_law_175 : decode cL_law 175 = .ok (.iload_n 3, 1) := by decide +kernel
theorem dL_law_176 : decode cL_law 176 = .ok (.iconst 1, 1) := by decide +kernel
theorem dL_law_177 : decode cL_law 177 = .ok (.iadd, 1) := by decide +kernel
theorem dL_law_178 : decode cL_law 178 = .ok (.iaload, 1) := by decide +kernel
theorem dL_law_179 : decode cL_law 179 = .ok (.aload_n 0, 1) := by decide +kernel
theorem dL_law_180 : decode cL_law 180 = .ok (.iload_n 3, 1) := by decide +kernel
theorem dL_law_181 : decode cL_law 181 = .ok (.iconst 2, 1) := by decide +kernel
theorem dL_law_182 : decode cL_law 182 = .ok (.iadd, 1) := by decide +kernel
theorem dL_law_183 : decode cL_law 183 = .ok (.iaload, 1) := by decide +kernel
theorem dL_law_184 : decode cL_law 184 = .ok (.aload_n 0, 1) := by decide +kernel
theorem dL_law_185 : decode cL_law 185 = .ok (.iload_n 3, 1) := by decide +kernel
theorem dL_law_186 : decode cL_law 186 = .ok (.iconst 3, 1) := by decide +kernel
theorem dL_law_187 : decode cL_law 187 = .ok (.iadd, 1) := by decide +kernel
theorem dL_law_188 : decode cL_law 188 = .ok (.iaload, 1) := by decide +kernel
theorem dL_law_189 : decode cL_law 189 = .ok (.aload_n 0, 1) := by decide +kernel
theorem dL_law_190 : decode cL_law 190 = .ok (.iload_n 3, 1) := by decide +kernel
theorem dL_law_191 : decode cL_law 191 = .ok (.iconst 4, 1) := by decide +kernel
theorem dL_law_192 : decode cL_law 192 = .ok (.iadd, 1) := by decide +kernel
theorem dL_law_193 : decode cL_law 193 = .ok (.iaload, 1) := by decide +kernel
theorem dL_law_194 : decode cL_law 194 = .ok (.aload_n 0, 1) := by decide +kernel
theorem dL_law_195 : decode cL_law 195 = .ok (.iload_n 3, 1) := by decide +kernel
theorem dL_law_196 : decode cL_law 196 = .ok (.iconst 5, 1) := by decide +kernel
theorem dL_law_197 : decode cL_law 197 = .ok (.iadd, 1) := by decide +kernel
theorem dL_law_198 : decode cL_law 198 = .ok (.iaload, 1) := by decide +kernel
theorem dL_law_199 : decode cL_law 199 = .ok (.invokevirtual 17, 3) := by decide +kernel
theorem dL_law_202 : decode cL_law 202 = .ok (.if_icmp .eq 646, 3) := by decide +kernel
theorem dL_law_205 : decode cL_law 205 = .ok (.iconst 0, 1) := by decide +kernel
theorem dL_law_206 : decode cL_law 206 = .ok (.ireturn, 1) := by decide +kernel
theorem dL_law_207 : decode cL_law 207 = .ok (.aload_n 1, 1) := by decide +kernel
theorem dL_law_208 : decode cL_law 208 = .ok (.aload_n 0, 1) := by decide +kernel
theorem dL_law_209 : decode cL_law 209 = .ok (.iload_n 3, 1) := by decide +kernel
theorem dL_law_210 : decode cL_law 210 = .ok (.iconst 1, 1) := by decide +kernel
theorem dL_law_211 : decode cL_law 211 = .ok (.iadd, 1) := by decide +kernel
theorem dL_law_212 : decode cL_law 212 = .ok (.iaload, 1) := by decide +kernel
theorem dL_law_213 : decode cL_law 213 = .ok (.invokevirtual 18, 3) := by decide +kernel
theorem dL_law_216 : decode cL_law 216 = .ok (.aload_n 2, 1) := by decide +kernel
theorem dL_law_217 : decode cL_law 217 = .ok (.aload_n 0, 1) := by decide +kernel
theorem dL_law_218 : decode cL_law 218 = .ok (.iload_n 3, 1) := by decide +kernel
theorem dL_law_219 : decode cL_law 219 = .ok (.iconst 1, 1) := by decide +kernel
theorem dL_law_220 : decode cL_law 220 = .ok (.iadd, 1) := by decide +kernel
theorem dL_law_221 : decode cL_law 221 = .ok (.iaload, 1) := by decide +kernel
theorem dL_law_222 : decode cL_law 222 = .ok (.invokevirtual 22, 3) := by decide +kernel
theorem dL_law_225 : decode cL_law 225 = .ok (.if_icmp .eq 623, 3) := by decide +kernel
theorem dL_law_228 : decode cL_law 228 = .ok (.iconst 0, 1) := by decide +kernel
theorem dL_law_229 : decode cL_law 229 = .ok (.ireturn, 1) := by decide +kernel
theorem dL_law_230 : decode cL_law 230 = .ok (.aload_n 1, 1) := by decide +kernel
theorem dL_law_231 : decode cL_law 231 = .ok (.invokevirtual 23, 3) := by decide +kernel
theorem dL_law_234 : decode cL_law 234 = .ok (.aload_n 2, 1) := by decide +kernel
theorem dL_law_235 : decode cL_law 235 = .ok (.invokevirtual 27, 3) := by decide +kernel
theorem dL_law_238 : decode cL_law 238 = .ok (.if_icmp .eq 610, 3) := by decide +kernel
theorem dL_law_241 : decode cL_law 241 = .ok (.iconst 0, 1) := by decide +kernel
theorem dL_law_242 : decode cL_law 242 = .ok (.ireturn, 1) := by decide +kernel
theorem dL_law_243 : decode cL_law 243 = .ok (.aload_n 1, 1) := by decide +kernel
theorem dL_law_244 : decode cL_law 244 = .ok (.aload_n 0, 1) := by decide +kernel
theorem dL_law_245 : decode cL_law 245 = .ok (.iload_n 3, 1) := by decide +kernel
theorem dL_law_246 : decode cL_law 246 = .ok (.iconst 1, 1) := by decide +kernel
theorem dL_law_247 : decode cL_law 247 = .ok (.iadd, 1) := by decide +kernel
theorem dL_law_248 : decode cL_law 248 = .ok (.iaload, 1) := by decide +kernel
theorem dL_law_249 : decode cL_law 249 = .ok (.invokevirtual 28, 3) := by decide +kernel
theorem dL_law_252 : decode cL_law 252 = .ok (.aload_n 2, 1) := by decide +kernel
theorem dL_law_253 : decode cL_law 253 = .ok (.aload_n 0, 1) := by decide +kernel
theorem dL_law_254 : decode cL_law 254 = .ok (.iload_n 3, 1) := by decide +kernel
theorem dL_law_255 : decode cL_law 255 = .ok (.iconst 1, 1) := by decide +kernel
theorem dL_law_256 : decode cL_law 256 = .ok (.iadd, 1) := by decide +kernel
theorem dL_law_257 : decode cL_law 257 = .ok (.iaload, 1) := by decide +kernel
theorem dL_law_258 : decode cL_law 258 = .ok (.invokevirtual 31, 3) := by decide +kernel
theorem dL_law_261 : decode cL_law 261 = .ok (.if_icmp .eq 587, 3) := by decide +kernel
theorem dL_law_264 : decode cL_law 264 = .ok (.iconst 0, 1) := by decide +kernel
theorem dL_law_265 : decode cL_law 265 = .ok (.ireturn, 1) := by decide +kernel
theorem dL_law_266 : decode cL_law 266 = .ok (.aload_n 1, 1) := by decide +kernel
theorem dL_law_267 : decode cL_law 267 = .ok (.aload_n 0, 1) := by decide +kernel
theorem dL_law_268 : decode cL_law 268 = .ok (.iload_n 3, 1) := by decide +kernel
theorem dL_law_269 : decode cL_law 269 = .ok (.iconst 1, 1) := by decide +kernel
theorem dL_law_270 : decode cL_law 270 = .ok (.iadd, 1) := by decide +kernel
theorem dL_law_271 : decode cL_law 271 = .ok (.iaload, 1) := by decide +kernel
theorem dL_law_272 : decode cL_law 272 = .ok (.aload_n 0, 1) := by decide +kernel
theorem dL_law_273 : decode cL_law 273 = .ok (.iload_n 3, 1) := by decide +kernel
theorem dL_law_274 : decode cL_law 274 = .ok (.iconst 2, 1) := by decide +kernel
theorem dL_law_275 : decode cL_law 275 = .ok (.iadd, 1) := by decide +kernel
theorem dL_law_276 : decode cL_law 276 = .ok (.iaload, 1) := by decide +kernel
theorem dL_law_277 : decode cL_law 277 = .ok (.invokevirtual 32, 3) := by decide +kernel
theorem dL_law_280 : decode cL_law 280 = .ok (.aload_n 2, 1) := by decide +kernel
theorem dL_law_281 : decode cL_law 281 = .ok (.aload_n 0, 1) := by decide +kernel
theorem dL_law_282 : decode cL_law 282 = .ok (.iload_n 3, 1) := by decide +kernel
theorem dL_law_283 : decode cL_law 283 = .ok (.iconst 1, 1) := by decide +kernel
theorem dL_law_284 : decode cL_law 284 = .ok (.iadd, 1) := by decide +kernel
theorem dL_law_285 : decode cL_law 285 = .ok (.iaload, 1) := by decide +kernel
theorem dL_law_286 : decode cL_law 286 = .ok (.aload_n 0, 1) := by decide +kernel
theorem dL_law_287 : decode cL_law 287 = .ok (.iload_n 3, 1) := by decide +kernel
theorem dL_law_288 : decode cL_law 288 = .ok (.iconst 2, 1) := by decide +kernel
theorem dL_law_289 : decode cL_law 289 = .ok (.iadd, 1) := by decide +kernel
theorem dL_law_290 : decode cL_law 290 = .ok (.iaload, 1) := by decide +kernel
theorem dL_law_291 : decode cL_law 291 = .ok (.invokevirtual 36, 3) := by decide +kernel
theorem dL_law_294 : decode cL_law 294 = .ok (.if_icmp .eq 554, 3) := by decide +kernel
theorem dL_law_297 : decode cL_law 297 = .ok (.iconst 0, 1) := by decide +kernel
theorem dL_law_298 : decode cL_law 298 = .ok (.ireturn, 1) := by decide +kernel
theorem dL_law_299 : decode cL_law 299 = .ok (.aload_n 1, 1) := by decide +kernel
theorem dL_law_300 : decode cL_law 300 = .ok (.aload_n 0, 1) := by decide +kernel
theorem dL_law_301 : decode cL_law 301 = .ok (.iload_n 3, 1) := by decide +kernel
theorem dL_law_302 : decode cL_law 302 = .ok (.iconst 1, 1) := by decide +kernel
theorem dL_law_303 : decode cL_law 303 = .ok (.iadd, 1) := by decide +kernel
theorem dL_law_304 : decode cL_law 304 = .ok (.iaload, 1) := by decide +kernel
theorem dL_law_305 : decode cL_law 305 = .ok (.aload_n 0, 1) := by decide +kernel
theorem dL_law_306 : decode cL_law 306 = .ok (.iload_n 3, 1) := by decide +kernel
theorem dL_law_307 : decode cL_law 307 = .ok (.iconst 2, 1) := by decide +kernel
theorem dL_law_308 : decode cL_law 308 = .ok (.iadd, 1) := by decide +kernel
theorem dL_law_309 : decode cL_law 309 = .ok (.iaload, 1) := by decide +kernel
theorem dL_law_310 : decode cL_law 310 = .ok (.aload_n 0, 1) := by decide +kernel
theorem dL_law_311 : decode cL_law 311 = .ok (.iload_n 3, 1) := by decide +kernel
theorem dL_law_312 : decode cL_law 312 = .ok (.iconst 3, 1) := by decide +kernel
theorem dL_law_313 : decode cL_law 313 = .ok (.iadd, 1) := by decide +kernel
theorem dL_law_314 : decode cL_law 314 = .ok (.iaload, 1) := by decide +kernel
theorem dL_law_315 : decode cL_law 315 = .ok (.invokevirtual 37, 3) := by decide +kernel
theorem dL_law_318 : decode cL_law 318 = .ok (.aload_n 2, 1) := by decide +kernel
theorem dL_law_319 : decode cL_law 319 = .ok (.aload_n 0, 1) := by decide +kernel
theorem dL_law_320 : decode cL_law 320 = .ok (.iload_n 3, 1) := by decide +kernel
theorem dL_law_321 : decode cL_law 321 = .ok (.iconst 1, 1) := by decide +kernel
theorem dL_law_322 : decode cL_law 322 = .ok (.iadd, 1) := by decide +kernel
theorem dL_law_323 : decode cL_law 323 = .ok (.iaload, 1) := by decide +kernel
theorem dL_law_324 : decode cL_law 324 = .ok (.aload_n 0, 1) := by decide +kernel
theorem dL_law_325 : decode cL_law 325 = .ok (.iload_n 3, 1) := by decide +kernel
theorem dL_law_326 : decode cL_law 326 = .ok (.iconst 2, 1) := by decide +kernel
theorem dL_law_327 : decode cL_law 327 = .ok (.iadd, 1) := by decide +kernel
theorem dL_law_328 : decode cL_law 328 = .ok (.iaload, 1) := by decide +kernel
theorem dL_law_329 : decode cL_law 329 = .ok (.aload_n 0, 1) := by decide +kernel
theorem dL_law_330 : decode cL_law 330 = .ok (.iload_n 3, 1) := by decide +kernel
theorem dL_law_331 : decode cL_law 331 = .ok (.iconst 3, 1) := by decide +kernel
theorem dL_law_332 : decode cL_law 332 = .ok (.iadd, 1) := by decide +kernel
theorem dL_law_333 : decode cL_law 333 = .ok (.iaload, 1) := by decide +kernel
theorem dL_law_334 : decode cL_law 334 = .ok (.invokevirtual 41, 3) := by decide +kernel
theorem dL_law_337 : decode cL_law 337 = .ok (.if_icmp .eq 511, 3) := by decide +kernel
theorem dL_law_340 : decode cL_law 340 = .ok (.iconst 0, 1) := by decide +kernel
theorem dL_law_341 : decode cL_law 341 = .ok (.ireturn, 1) := by decide +kernel
theorem dL_law_342 : decode cL_law 342 = .ok (.aload_n 1, 1) := by decide +kernel
theorem dL_law_343 : decode cL_law 343 = .ok (.aload_n 0, 1) := by decide +kernel
theorem dL_law_344 : decode cL_law 344 = .ok (.iload_n 3, 1) := by decide +kernel
theorem dL_law_345 : decode cL_law 345 = .ok (.iconst 1, 1) := by decide +kernel
theorem dL_law_346 : decode cL_law 346 = .ok (.iadd, 1) := by decide +kernel
theorem dL_law_347 : decode cL_law 347 = .ok (.iaload, 1) := by decide +kernel
theorem dL_law_348 : decode cL_law 348 = .ok (.aload_n 0, 1) := by decide +kernel
theorem dL_law_349 : decode cL_law 349 = .ok (.iload_n 3, 1) := by decide +kernel
theorem dL_law_350 : decode cL_law 350 = .ok (.iconst 2, 1) := by decide +kernel
theorem dL_law_351 : decode cL_law 351 = .ok (.iadd, 1) := by decide +kernel
theorem dL_law_352 : decode cL_law 352 = .ok (.iaload, 1) := by decide +kernel
theorem dL_law_353 : decode cL_law 353 = .ok (.invokevirtual 42, 3) := by decide +kernel
theorem dL_law_356 : decode cL_law 356 = .ok (.aload_n 2, 1) := by decide +kernel
theorem dL_law_357 : decode cL_law 357 = .ok (.aload_n 0, 1) := by decide +kernel
theorem dL_law_358 : decode cL_law 358 = .ok (.iload_n 3, 1) := by decide +kernel
theorem dL_law_359 : decode cL_law 359 = .ok (.iconst 1, 1) := by decide +kernel
theorem dL_law_360 : decode cL_law 360 = .ok (.iadd, 1) := by decide +kernel
theorem dL_law_361 : decode cL_law 361 = .ok (.iaload, 1) := by decide +kernel
theorem dL_law_362 : decode cL_law 362 = .ok (.aload_n 0, 1) := by decide +kernel
theorem dL_law_363 : decode cL_law 363 = .ok (.iload_n 3, 1) := by decide +kernel
theorem dL_law_364 : decode cL_law 364 = .ok (.iconst 2, 1) := by decide +kernel
theorem dL_law_365 : decode cL_law 365 = .ok (.iadd, 1) := by decide +kernel
theorem dL_law_366 : decode cL_law 366 = .ok (.iaload, 1) := by decide +kernel
theorem dL_law_367 : decode cL_law 367 = .ok (.invokevirtual 45, 3) := by decide +kernel
theorem dL_law_370 : decode cL_law 370 = .ok (.if_icmp .eq 478, 3) := by decide +kernel
theorem dL_law_373 : decode cL_law 373 = .ok (.iconst 0, 1) := by decide +kernel
theorem dL_law_374 : decode cL_law 374 = .ok (.ireturn, 1) := by decide +kernel
theorem dL_law_375 : decode cL_law 375 = .ok (.aload_n 1, 1) := by decide +kernel
theorem dL_law_376 : decode cL_law 376 = .ok (.aload_n 0, 1) := by decide +kernel
theorem dL_law_377 : decode cL_law 377 = .ok (.iload_n 3, 1) := by decide +kernel
theorem dL_law_378 : decode cL_law 378 = .ok (.iconst 1, 1) := by decide +kernel
theorem dL_law_379 : decode cL_law 379 = .ok (.iadd, 1) := by decide +kernel
theorem dL_law_380 : decode cL_law 380 = .ok (.iaload, 1) := by decide +kernel
theorem dL_law_381 : decode cL_law 381 = .ok (.aload_n 0, 1) := by decide +kernel
theorem dL_law_382 : decode cL_law 382 = .ok (.iload_n 3, 1) := by decide +kernel
theorem dL_law_383 : decode cL_law 383 = .ok (.iconst 2, 1) := by decide +kernel
theorem dL_law_384 : decode cL_law 384 = .ok (.iadd, 1) := by decide +kernel
theorem dL_law_385 : decode cL_law 385 = .ok (.iaload, 1) := by decide +kernel
theorem dL_law_386 : decode cL_law 386 = .ok (.invokevirtual 46, 3) := by decide +kernel
theorem dL_law_389 : decode cL_law 389 = .ok (.aload_n 2, 1) := by decide +kernel
theorem dL_law_390 : decode cL_law 390 = .ok (.aload_n 0, 1) := by decide +kernel
theorem dL_law_391 : decode cL_law 391 = .ok (.iload_n 3, 1) := by decide +kernel
theorem dL_law_392 : decode cL_law 392 = .ok (.iconst 1, 1) := by decide +kernel
theorem dL_law_393 : decode cL_law 393 = .ok (.iadd, 1) := by decide +kernel
theorem dL_law_394 : decode cL_law 394 = .ok (.iaload, 1) := by decide +kernel
theorem dL_law_395 : decode cL_law 395 = .ok (.aload_n 0, 1) := by decide +kernel
theorem dL_law_396 : decode cL_law 396 = .ok (.iload_n 3, 1) := by decide +kernel
theorem dL_law_397 : decode cL_law 397 = .ok (.iconst 2, 1) := by decide +kernel
theorem dL_law_398 : decode cL_law 398 = .ok (.iadd, 1) := by decide +kernel
theorem dL_law_399 : decode cL_law 399 = .ok (.iaload, 1) := by decide +kernel
theorem dL_law_400 : decode cL_law 400 = .ok (.invokevirtual 49, 3) := by decide +kernel
theorem dL_law_403 : decode cL_law 403 = .ok (.if_icmp .eq 445, 3) := by decide +kernel
theorem dL_law_406 : decode cL_law 406 = .ok (.iconst 0, 1) := by decide +kernel
theorem dL_law_407 : decode cL_law 407 = .ok (.ireturn, 1) := by decide +kernel
theorem dL_law_408 : decode cL_law 408 = .ok (.aload_n 1, 1) := by decide +kernel
theorem dL_law_409 : decode cL_law 409 = .ok (.aload_n 0, 1) := by decide +kernel
theorem dL_law_410 : decode cL_law 410 = .ok (.iload_n 3, 1) := by decide +kernel
theorem dL_law_411 : decode cL_law 411 = .ok (.iconst 1, 1) := by decide +kernel
theorem dL_law_412 : decode cL_law 412 = .ok (.iadd, 1) := by decide +kernel
theorem dL_law_413 : decode cL_law 413 = .ok (.iaload, 1) := by decide +kernel
theorem dL_law_414 : decode cL_law 414 = .ok (.invokevirtual 50, 3) := by decide +kernel
theorem dL_law_417 : decode cL_law 417 = .ok (.aload_n 2, 1) := by decide +kernel
theorem dL_law_418 : decode cL_law 418 = .ok (.aload_n 0, 1) := by decide +kernel
theorem dL_law_419 : decode cL_law 419 = .ok (.iload_n 3, 1) := by decide +kernel
theorem dL_law_420 : decode cL_law 420 = .ok (.iconst 1, 1) := by decide +kernel
theorem dL_law_421 : decode cL_law 421 = .ok (.iadd, 1) := by decide +kernel
theorem dL_law_422 : decode cL_law 422 = .ok (.iaload, 1) := by decide +kernel
theorem dL_law_423 : decode cL_law 423 = .ok (.invokevirtual 53, 3) := by decide +kernel
theorem dL_law_426 : decode cL_law 426 = .ok (.if_icmp .eq 422, 3) := by decide +kernel
theorem dL_law_429 : decode cL_law 429 = .ok (.iconst 0, 1) := by decide +kernel
theorem dL_law_430 : decode cL_law 430 = .ok (.ireturn, 1) := by decide +kernel
theorem dL_law_431 : decode cL_law 431 = .ok (.aload_n 1, 1) := by decide +kernel
theorem dL_law_432 : decode cL_law 432 = .ok (.invokevirtual 54, 3) := by decide +kernel
theorem dL_law_435 : decode cL_law 435 = .ok (.aload_n 2, 1) := by decide +kernel
theorem dL_law_436 : decode cL_law 436 = .ok (.invokevirtual 57, 3) := by decide +kernel
theorem dL_law_439 : decode cL_law 439 = .ok (.if_icmp .eq 409, 3) := by decide +kernel
theorem dL_law_442 : decode cL_law 442 = .ok (.iconst 0, 1) := by decide +kernel
theorem dL_law_443 : decode cL_law 443 = .ok (.ireturn, 1) := by decide +kernel
theorem dL_law_444 : decode cL_law 444 = .ok (.aload_n 1, 1) := by decide +kernel
theorem dL_law_445 : decode cL_law 445 = .ok (.aload_n 0, 1) := by decide +kernel
theorem dL_law_446 : decode cL_law 446 = .ok (.iload_n 3, 1) := by decide +kernel
theorem dL_law_447 : decode cL_law 447 = .ok (.iconst 1, 1) := by decide +kernel
theorem dL_law_448 : decode cL_law 448 = .ok (.iadd, 1) := by decide +kernel
theorem dL_law_449 : decode cL_law 449 = .ok (.iaload, 1) := by decide +kernel
theorem dL_law_450 : decode cL_law 450 = .ok (.invokevirtual 58, 3) := by decide +kernel
theorem dL_law_453 : decode cL_law 453 = .ok (.aload_n 2, 1) := by decide +kernel
theorem dL_law_454 : decode cL_law 454 = .ok (.aload_n 0, 1) := by decide +kernel
theorem dL_law_455 : decode cL_law 455 = .ok (.iload_n 3, 1) := by decide +kernel
theorem dL_law_456 : decode cL_law 456 = .ok (.iconst 1, 1) := by decide +kernel
theorem dL_law_457 : decode cL_law 457 = .ok (.iadd, 1) := by decide +kernel
theorem dL_law_458 : decode cL_law 458 = .ok (.iaload, 1) := by decide +kernel
theorem dL_law_459 : decode cL_law 459 = .ok (.invokevirtual 61, 3) := by decide +kernel
theorem dL_law_462 : decode cL_law 462 = .ok (.if_icmp .eq 386, 3) := by decide +kernel
theorem dL_law_465 : decode cL_law 465 = .ok (.iconst 0, 1) := by decide +kernel
theorem dL_law_466 : decode cL_law 466 = .ok (.ireturn, 1) := by decide +kernel
theorem dL_law_467 : decode cL_law 467 = .ok (.aload_n 1, 1) := by decide +kernel
theorem dL_law_468 : decode cL_law 468 = .ok (.aload_n 0, 1) := by decide +kernel
theorem dL_law_469 : decode cL_law 469 = .ok (.iload_n 3, 1) := by decide +kernel
theorem dL_law_470 : decode cL_law 470 = .ok (.iconst 1, 1) := by decide +kernel
theorem dL_law_471 : decode cL_law 471 = .ok (.iadd, 1) := by decide +kernel
theorem dL_law_472 : decode cL_law 472 = .ok (.iaload, 1) := by decide +kernel
theorem dL_law_473 : decode cL_law 473 = .ok (.aload_n 0, 1) := by decide +kernel
theorem dL_law_474 : decode cL_law 474 = .ok (.iload_n 3, 1) := by decide +kernel
theorem dL_law_475 : decode cL_law 475 = .ok (.iconst 2, 1) := by decide +kernel
theorem dL_law_476 : decode cL_law 476 = .ok (.iadd, 1) := by decide +kernel
theorem dL_law_477 : decode cL_law 477 = .ok (.iaload, 1) := by decide +kernel
theorem dL_law_478 : decode cL_law 478 = .ok (.invokevirtual 62, 3) := by decide +kernel
theorem dL_law_481 : decode cL_law 481 = .ok (.aload_n 2, 1) := by decide +kernel
theorem dL_law_482 : decode cL_law 482 = .ok (.aload_n 0, 1) := by decide +kernel
theorem dL_law_483 : decode cL_law 483 = .ok (.iload_n 3, 1) := by decide +kernel
theorem dL_law_484 : decode cL_law 484 = .ok (.iconst 1, 1) := by decide +kernel
theorem dL_law_485 : decode cL_law 485 = .ok (.iadd, 1) := by decide +kernel
theorem dL_law_486 : decode cL_law 486 = .ok (.iaload, 1) := by decide +kernel
theorem dL_law_487 : decode cL_law 487 = .ok (.aload_n 0, 1) := by decide +kernel
theorem dL_law_488 : decode cL_law 488 = .ok (.iload_n 3, 1) := by decide +kernel
theorem dL_law_489 : decode cL_law 489 = .ok (.iconst 2, 1) := by decide +kernel
theorem dL_law_490 : decode cL_law 490 = .ok (.iadd, 1) := by decide +kernel
theorem dL_law_491 : decode cL_law 491 = .ok (.iaload, 1) := by decide +kernel
theorem dL_law_492 : decode cL_law 492 = .ok (.invokevirtual 65, 3) := by decide +kernel
theorem dL_law_495 : decode cL_law 495 = .ok (.if_icmp .eq 353, 3) := by decide +kernel
theorem dL_law_498 : decode cL_law 498 = .ok (.iconst 0, 1) := by decide +kernel
theorem dL_law_499 : decode cL_law 499 = .ok (.ireturn, 1) := by decide +kernel
theorem dL_law_500 : decode cL_law 500 = .ok (.aload_n 1, 1) := by decide +kernel
theorem dL_law_501 : decode cL_law 501 = .ok (.aload_n 0, 1) := by decide +kernel
theorem dL_law_502 : decode cL_law 502 = .ok (.iload_n 3, 1) := by decide +kernel
theorem dL_law_503 : decode cL_law 503 = .ok (.iconst 1, 1) := by decide +kernel
theorem dL_law_504 : decode cL_law 504 = .ok (.iadd, 1) := by decide +kernel
theorem dL_law_505 : decode cL_law 505 = .ok (.iaload, 1) := by decide +kernel
theorem dL_law_506 : decode cL_law 506 = .ok (.invokevirtual 66, 3) := by decide +kernel
theorem dL_law_509 : decode cL_law 509 = .ok (.aload_n 2, 1) := by decide +kernel
theorem dL_law_510 : decode cL_law 510 = .ok (.aload_n 0, 1) := by decide +kernel
theorem dL_law_511 : decode cL_law 511 = .ok (.iload_n 3, 1) := by decide +kernel
theorem dL_law_512 : decode cL_law 512 = .ok (.iconst 1, 1) := by decide +kernel
theorem dL_law_513 : decode cL_law 513 = .ok (.iadd, 1) := by decide +kernel
theorem dL_law_514 : decode cL_law 514 = .ok (.iaload, 1) := by decide +kernel
theorem dL_law_515 : decode cL_law 515 = .ok (.invokevirtual 69, 3) := by decide +kernel
theorem dL_law_518 : decode cL_law 518 = .ok (.if_icmp .eq 330, 3) := by decide +kernel
theorem dL_law_521 : decode cL_law 521 = .ok (.iconst 0, 1) := by decide +kernel
theorem dL_law_522 : decode cL_law 522 = .ok (.ireturn, 1) := by decide +kernel
theorem dL_law_523 : decode cL_law 523 = .ok (.aload_n 1, 1) := by decide +kernel
theorem dL_law_524 : decode cL_law 524 = .ok (.aload_n 0, 1) := by decide +kernel
theorem dL_law_525 : decode cL_law 525 = .ok (.iload_n 3, 1) := by decide +kernel
theorem dL_law_526 : decode cL_law 526 = .ok (.iconst 1, 1) := by decide +kernel
theorem dL_law_527 : decode cL_law 527 = .ok (.iadd, 1) := by decide +kernel
theorem dL_law_528 : decode cL_law 528 = .ok (.iaload, 1) := by decide +kernel
theorem dL_law_529 : decode cL_law 529 = .ok (.aload_n 0, 1) := by decide +kernel
theorem dL_law_530 : decode cL_law 530 = .ok (.iload_n 3, 1) := by decide +kernel
theorem dL_law_531 : decode cL_law 531 = .ok (.iconst 2, 1) := by decide +kernel
theorem dL_law_532 : decode cL_law 532 = .ok (.iadd, 1) := by decide +kernel
theorem dL_law_533 : decode cL_law 533 = .ok (.iaload, 1) := by decide +kernel
theorem dL_law_534 : decode cL_law 534 = .ok (.ifCond .eq 7, 3) := by decide +kernel
theorem dL_law_537 : decode cL_law 537 = .ok (.iconst 1, 1) := by decide +kernel
theorem dL_law_538 : decode cL_law 538 = .ok (.goto 4, 3) := by decide +kernel
theorem dL_law_541 : decode cL_law 541 = .ok (.iconst 0, 1) := by decide +kernel
theorem dL_law_542 : decode cL_law 542 = .ok (.invokevirtual 70, 3) := by decide +kernel
theorem dL_law_545 : decode cL_law 545 = .ok (.aload_n 2, 1) := by decide +kernel
theorem dL_law_546 : decode cL_law 546 = .ok (.aload_n 0, 1) := by decide +kernel
theorem dL_law_547 : decode cL_law 547 = .ok (.iload_n 3, 1) := by decide +kernel
theorem dL_law_548 : decode cL_law 548 = .ok (.iconst 1, 1) := by decide +kernel
theorem dL_law_549 : decode cL_law 549 = .ok (.iadd, 1) := by decide +kernel
theorem dL_law_550 : decode cL_law 550 = .ok (.iaload, 1) := by decide +kernel
theorem dL_law_551 : decode cL_law 551 = .ok (.aload_n 0, 1) := by decide +kernel
theorem dL_law_552 : decode cL_law 552 = .ok (.iload_n 3, 1) := by decide +kernel
theorem dL_law_553 : decode cL_law 553 = .ok (.iconst 2, 1) := by decide +kernel
theorem dL_law_554 : decode cL_law 554 = .ok (.iadd, 1) := by decide +kernel
theorem dL_law_555 : decode cL_law 555 = .ok (.iaload, 1) := by decide +kernel
theorem dL_law_556 : decode cL_law 556 = .ok (.ifCond .eq 7, 3) := by decide +kernel
theorem dL_law_559 : decode cL_law 559 = .ok (.iconst 1, 1) := by decide +kernel
theorem dL_law_560 : decode cL_law 560 = .ok (.goto 4, 3) := by decide +kernel
theorem dL_law_563 : decode cL_law 563 = .ok (.iconst 0, 1) := by decide +kernel
theorem dL_law_564 : decode cL_law 564 = .ok (.invokevirtual 74, 3) := by decide +kernel
theorem dL_law_567 : decode cL_law 567 = .ok (.if_icmp .eq 281, 3) := by decide +kernel
theorem dL_law_570 : decode cL_law 570 = .ok (.iconst 0, 1) := by decide +kernel
theorem dL_law_571 : decode cL_law 571 = .ok (.ireturn, 1) := by decide +kernel
theorem dL_law_572 : decode cL_law 572 = .ok (.aload_n 1, 1) := by decide +kernel
theorem dL_law_573 : decode cL_law 573 = .ok (.aload_n 0, 1) := by decide +kernel
theorem dL_law_574 : decode cL_law 574 = .ok (.iload_n 3, 1) := by decide +kernel
theorem dL_law_575 : decode cL_law 575 = .ok (.iconst 1, 1) := by decide +kernel
theorem dL_law_576 : decode cL_law 576 = .ok (.iadd, 1) := by decide +kernel
theorem dL_law_577 : decode cL_law 577 = .ok (.iaload, 1) := by decide +kernel
theorem dL_law_578 : decode cL_law 578 = .ok (.aload_n 0, 1) := by decide +kernel
theorem dL_law_579 : decode cL_law 579 = .ok (.iload_n 3, 1) := by decide +kernel
theorem dL_law_580 : decode cL_law 580 = .ok (.iconst 2, 1) := by decide +kernel
theorem dL_law_581 : decode cL_law 581 = .ok (.iadd, 1) := by decide +kernel
theorem dL_law_582 : decode cL_law 582 = .ok (.iaload, 1) := by decide +kernel
theorem dL_law_583 : decode cL_law 583 = .ok (.invokevirtual 75, 3) := by decide +kernel
theorem dL_law_586 : decode cL_law 586 = .ok (.aload_n 2, 1) := by decide +kernel
theorem dL_law_587 : decode cL_law 587 = .ok (.aload_n 0, 1) := by decide +kernel
theorem dL_law_588 : decode cL_law 588 = .ok (.iload_n 3, 1) := by decide +kernel
theorem dL_law_589 : decode cL_law 589 = .ok (.iconst 1, 1) := by decide +kernel
theorem dL_law_590 : decode cL_law 590 = .ok (.iadd, 1) := by decide +kernel
theorem dL_law_591 : decode cL_law 591 = .ok (.iaload, 1) := by decide +kernel
theorem dL_law_592 : decode cL_law 592 = .ok (.aload_n 0, 1) := by decide +kernel
theorem dL_law_593 : decode cL_law 593 = .ok (.iload_n 3, 1) := by decide +kernel
theorem dL_law_594 : decode cL_law 594 = .ok (.iconst 2, 1) := by decide +kernel
theorem dL_law_595 : decode cL_law 595 = .ok (.iadd, 1) := by decide +kernel
theorem dL_law_596 : decode cL_law 596 = .ok (.iaload, 1) := by decide +kernel
theorem dL_law_597 : decode cL_law 597 = .ok (.invokevirtual 78, 3) := by decide +kernel
theorem dL_law_600 : decode cL_law 600 = .ok (.if_icmp .eq 248, 3) := by decide +kernel
theorem dL_law_603 : decode cL_law 603 = .ok (.iconst 0, 1) := by decide +kernel
theorem dL_law_604 : decode cL_law 604 = .ok (.ireturn, 1) := by decide +kernel
theorem dL_law_605 : decode cL_law 605 = .ok (.aload_n 1, 1) := by decide +kernel
theorem dL_law_606 : decode cL_law 606 = .ok (.aload_n 0, 1) := by decide +kernel
theorem dL_law_607 : decode cL_law 607 = .ok (.iload_n 3, 1) := by decide +kernel
theorem dL_law_608 : decode cL_law 608 = .ok (.iconst 1, 1) := by decide +kernel
theorem dL_law_609 : decode cL_law 609 = .ok (.iadd, 1) := by decide +kernel
theorem dL_law_610 : decode cL_law 610 = .ok (.iaload, 1) := by decide +kernel
theorem dL_law_611 : decode cL_law 611 = .ok (.aload_n 0, 1) := by decide +kernel
theorem dL_law_612 : decode cL_law 612 = .ok (.iload_n 3, 1) := by decide +kernel
theorem dL_law_613 : decode cL_law 613 = .ok (.iconst 2, 1) := by decide +kernel
theorem dL_law_614 : decode cL_law 614 = .ok (.iadd, 1) := by decide +kernel
theorem dL_law_615 : decode cL_law 615 = .ok (.iaload, 1) := by decide +kernel
theorem dL_law_616 : decode cL_law 616 = .ok (.aload_n 0, 1) := by decide +kernel
theorem dL_law_617 : decode cL_law 617 = .ok (.iload_n 3, 1) := by decide +kernel
theorem dL_law_618 : decode cL_law 618 = .ok (.iconst 3, 1) := by decide +kernel
theorem dL_law_619 : decode cL_law 619 = .ok (.iadd, 1) := by decide +kernel
theorem dL_law_620 : decode cL_law 620 = .ok (.iaload, 1) := by decide +kernel
theorem dL_law_621 : decode cL_law 621 = .ok (.invokevirtual 79, 3) := by decide +kernel
theorem dL_law_624 : decode cL_law 624 = .ok (.aload_n 2, 1) := by decide +kernel
theorem dL_law_625 : decode cL_law 625 = .ok (.aload_n 0, 1) := by decide +kernel
theorem dL_law_626 : decode cL_law 626 = .ok (.iload_n 3, 1) := by decide +kernel
theorem dL_law_627 : decode cL_law 627 = .ok (.iconst 1, 1) := by decide +kernel
theorem dL_law_628 : decode cL_law 628 = .ok (.iadd, 1) := by decide +kernel
theorem dL_law_629 : decode cL_law 629 = .ok (.iaload, 1) := by decide +kernel
theorem dL_law_630 : decode cL_law 630 = .ok (.aload_n 0, 1) := by decide +kernel
theorem dL_law_631 : decode cL_law 631 = .ok (.iload_n 3, 1) := by decide +kernel
theorem dL_law_632 : decode cL_law 632 = .ok (.iconst 2, 1) := by decide +kernel
theorem dL_law_633 : decode cL_law 633 = .ok (.iadd, 1) := by decide +kernel
theorem dL_law_634 : decode cL_law 634 = .ok (.iaload, 1) := by decide +kernel
theorem dL_law_635 : decode cL_law 635 = .ok (.aload_n 0, 1) := by decide +kernel
theorem dL_law_636 : decode cL_law 636 = .ok (.iload_n 3, 1) := by decide +kernel
theorem dL_law_637 : decode cL_law 637 = .ok (.iconst 3, 1) := by decide +kernel
theorem dL_law_638 : decode cL_law 638 = .ok (.iadd, 1) := by decide +kernel
theorem dL_law_639 : decode cL_law 639 = .ok (.iaload, 1) := by decide +kernel
theorem dL_law_640 : decode cL_law 640 = .ok (.invokevirtual 82, 3) := by decide +kernel
theorem dL_law_643 : decode cL_law 643 = .ok (.if_icmp .eq 205, 3) := by decide +kernel
theorem dL_law_646 : decode cL_law 646 = .ok (.iconst 0, 1) := by decide +kernel
theorem dL_law_647 : decode cL_law 647 = .ok (.ireturn, 1) := by decide +kernel
theorem dL_law_648 : decode cL_law 648 = .ok (.aload_n 1, 1) := by decide +kernel
theorem dL_law_649 : decode cL_law 649 = .ok (.aload_n 0, 1) := by decide +kernel
theorem dL_law_650 : decode cL_law 650 = .ok (.iload_n 3, 1) := by decide +kernel
theorem dL_law_651 : decode cL_law 651 = .ok (.iconst 1, 1) := by decide +kernel
theorem dL_law_652 : decode cL_law 652 = .ok (.iadd, 1) := by decide +kernel
theorem dL_law_653 : decode cL_law 653 = .ok (.iaload, 1) := by decide +kernel
theorem dL_law_654 : decode cL_law 654 = .ok (.invokevirtual 83, 3) := by decide +kernel
theorem dL_law_657 : decode cL_law 657 = .ok (.aload_n 2, 1) := by decide +kernel
theorem dL_law_658 : decode cL_law 658 = .ok (.aload_n 0, 1) := by decide +kernel
theorem dL_law_659 : decode cL_law 659 = .ok (.iload_n 3, 1) := by decide +kernel
theorem dL_law_660 : decode cL_law 660 = .ok (.iconst 1, 1) := by decide +kernel
theorem dL_law_661 : decode cL_law 661 = .ok (.iadd, 1) := by decide +kernel
theorem dL_law_662 : decode cL_law 662 = .ok (.iaload, 1) := by decide +kernel
theorem dL_law_663 : decode cL_law 663 = .ok (.invokevirtual 86, 3) := by decide +kernel
theorem dL_law_666 : decode cL_law 666 = .ok (.if_icmp .eq 182, 3) := by decide +kernel
theorem dL_law_669 : decode cL_law 669 = .ok (.iconst 0, 1) := by decide +kernel
theorem dL_law_670 : decode cL_law 670 = .ok (.ireturn, 1) := by decide +kernel
theorem dL_law_671 : decode cL_law 671 = .ok (.aload_n 1, 1) := by decide +kernel
theorem dL_law_672 : decode cL_law 672 = .ok (.aload_n 0, 1) := by decide +kernel
theorem dL_law_673 : decode cL_law 673 = .ok (.iload_n 3, 1) := by decide +kernel
theorem dL_law_674 : decode cL_law 674 = .ok (.iconst 1, 1) := by decide +kernel
theorem dL_law_675 : decode cL_law 675 = .ok (.iadd, 1) := by decide +kernel
theorem dL_law_676 : decode cL_law 676 = .ok (.iaload, 1) := by decide +kernel
theorem dL_law_677 : decode cL_law 677 = .ok (.ifCond .eq 7, 3) := by decide +kernel
theorem dL_law_680 : decode cL_law 680 = .ok (.iconst 1, 1) := by decide +kernel
theorem dL_law_681 : decode cL_law 681 = .ok (.goto 4, 3) := by decide +kernel
theorem dL_law_684 : decode cL_law 684 = .ok (.iconst 0, 1) := by decide +kernel
theorem dL_law_685 : decode cL_law 685 = .ok (.invokevirtual 87, 3) := by decide +kernel
theorem dL_law_688 : decode cL_law 688 = .ok (.aload_n 2, 1) := by decide +kernel
theorem dL_law_689 : decode cL_law 689 = .ok (.aload_n 0, 1) := by decide +kernel
theorem dL_law_690 : decode cL_law 690 = .ok (.iload_n 3, 1) := by decide +kernel
theorem dL_law_691 : decode cL_law 691 = .ok (.iconst 1, 1) := by decide +kernel
theorem dL_law_692 : decode cL_law 692 = .ok (.iadd, 1) := by decide +kernel
theorem dL_law_693 : decode cL_law 693 = .ok (.iaload, 1) := by decide +kernel
theorem dL_law_694 : decode cL_law 694 = .ok (.ifCond .eq 7, 3) := by decide +kernel
theorem dL_law_697 : decode cL_law 697 = .ok (.iconst 1, 1) := by decide +kernel
theorem dL_law_698 : decode cL_law 698 = .ok (.goto 4, 3) := by decide +kernel
theorem dL_law_701 : decode cL_law 701 = .ok (.iconst 0, 1) := by decide +kernel
theorem dL_law_702 : decode cL_law 702 = .ok (.invokevirtual 91, 3) := by decide +kernel
theorem dL_law_705 : decode cL_law 705 = .ok (.if_icmp .eq 143, 3) := by decide +kernel
theorem dL_law_708 : decode cL_law 708 = .ok (.iconst 0, 1) := by decide +kernel
theorem dL_law_709 : decode cL_law 709 = .ok (.ireturn, 1) := by decide +kernel
theorem dL_law_710 : decode cL_law 710 = .ok (.aload_n 1, 1) := by decide +kernel
theorem dL_law_711 : decode cL_law 711 = .ok (.aload_n 0, 1) := by decide +kernel
theorem dL_law_712 : decode cL_law 712 = .ok (.iload_n 3, 1) := by decide +kernel
theorem dL_law_713 : decode cL_law 713 = .ok (.iconst 1, 1) := by decide +kernel
theorem dL_law_714 : decode cL_law 714 = .ok (.iadd, 1) := by decide +kernel
theorem dL_law_715 : decode cL_law 715 = .ok (.iaload, 1) := by decide +kernel
theorem dL_law_716 : decode cL_law 716 = .ok (.aload_n 0, 1) := by decide +kernel
theorem dL_law_717 : decode cL_law 717 = .ok (.iload_n 3, 1) := by decide +kernel
theorem dL_law_718 : decode cL_law 718 = .ok (.iconst 2, 1) := by decide +kernel
theorem dL_law_719 : decode cL_law 719 = .ok (.iadd, 1) := by decide +kernel
theorem dL_law_720 : decode cL_law 720 = .ok (.iaload, 1) := by decide +kernel
theorem dL_law_721 : decode cL_law 721 = .ok (.invokevirtual 92, 3) := by decide +kernel
theorem dL_law_724 : decode cL_law 724 = .ok (.aload_n 2, 1) := by decide +kernel
theorem dL_law_725 : decode cL_law 725 = .ok (.aload_n 0, 1) := by decide +kernel
theorem dL_law_726 : decode cL_law 726 = .ok (.iload_n 3, 1) := by decide +kernel
theorem dL_law_727 : decode cL_law 727 = .ok (.iconst 1, 1) := by decide +kernel
theorem dL_law_728 : decode cL_law 728 = .ok (.iadd, 1) := by decide +kernel
theorem dL_law_729 : decode cL_law 729 = .ok (.iaload, 1) := by decide +kernel
theorem dL_law_730 : decode cL_law 730 = .ok (.aload_n 0, 1) := by decide +kernel
theorem dL_law_731 : decode cL_law 731 = .ok (.iload_n 3, 1) := by decide +kernel
theorem dL_law_732 : decode cL_law 732 = .ok (.iconst 2, 1) := by decide +kernel
theorem dL_law_733 : decode cL_law 733 = .ok (.iadd, 1) := by decide +kernel
theorem dL_law_734 : decode cL_law 734 = .ok (.iaload, 1) := by decide +kernel
theorem dL_law_735 : decode cL_law 735 = .ok (.invokevirtual 95, 3) := by decide +kernel
theorem dL_law_738 : decode cL_law 738 = .ok (.if_icmp .eq 110, 3) := by decide +kernel
theorem dL_law_741 : decode cL_law 741 = .ok (.iconst 0, 1) := by decide +kernel
theorem dL_law_742 : decode cL_law 742 = .ok (.ireturn, 1) := by decide +kernel
theorem dL_law_743 : decode cL_law 743 = .ok (.aload_n 1, 1) := by decide +kernel
theorem dL_law_744 : decode cL_law 744 = .ok (.invokevirtual 96, 3) := by decide +kernel
theorem dL_law_747 : decode cL_law 747 = .ok (.aload_n 2, 1) := by decide +kernel
theorem dL_law_748 : decode cL_law 748 = .ok (.invokevirtual 99, 3) := by decide +kernel
theorem dL_law_751 : decode cL_law 751 = .ok (.if_icmp .eq 97, 3) := by decide +kernel
theorem dL_law_754 : decode cL_law 754 = .ok (.iconst 0, 1) := by decide +kernel
theorem dL_law_755 : decode cL_law 755 = .ok (.ireturn, 1) := by decide +kernel
theorem dL_law_756 : decode cL_law 756 = .ok (.aload_n 1, 1) := by decide +kernel
theorem dL_law_757 : decode cL_law 757 = .ok (.aload_n 0, 1) := by decide +kernel
theorem dL_law_758 : decode cL_law 758 = .ok (.iload_n 3, 1) := by decide +kernel
theorem dL_law_759 : decode cL_law 759 = .ok (.iconst 1, 1) := by decide +kernel
theorem dL_law_760 : decode cL_law 760 = .ok (.iadd, 1) := by decide +kernel
theorem dL_law_761 : decode cL_law 761 = .ok (.iaload, 1) := by decide +kernel
theorem dL_law_762 : decode cL_law 762 = .ok (.aload_n 0, 1) := by decide +kernel
theorem dL_law_763 : decode cL_law 763 = .ok (.iload_n 3, 1) := by decide +kernel
theorem dL_law_764 : decode cL_law 764 = .ok (.iconst 2, 1) := by decide +kernel
theorem dL_law_765 : decode cL_law 765 = .ok (.iadd, 1) := by decide +kernel
theorem dL_law_766 : decode cL_law 766 = .ok (.iaload, 1) := by decide +kernel
theorem dL_law_767 : decode cL_law 767 = .ok (.invokevirtual 100, 3) := by decide +kernel
theorem dL_law_770 : decode cL_law 770 = .ok (.aload_n 2, 1) := by decide +kernel
theorem dL_law_771 : decode cL_law 771 = .ok (.aload_n 0, 1) := by decide +kernel
theorem dL_law_772 : decode cL_law 772 = .ok (.iload_n 3, 1) := by decide +kernel
theorem dL_law_773 : decode cL_law 773 = .ok (.iconst 1, 1) := by decide +kernel
theorem dL_law_774 : decode cL_law 774 = .ok (.iadd, 1) := by decide +kernel
theorem dL_law_775 : decode cL_law 775 = .ok (.iaload, 1) := by decide +kernel
theorem dL_law_776 : decode cL_law 776 = .ok (.aload_n 0, 1) := by decide +kernel
theorem dL_law_777 : decode cL_law 777 = .ok (.iload_n 3, 1) := by decide +kernel
theorem dL_law_778 : decode cL_law 778 = .ok (.iconst 2, 1) := by decide +kernel
theorem dL_law_779 : decode cL_law 779 = .ok (.iadd, 1) := by decide +kernel
theorem dL_law_780 : decode cL_law 780 = .ok (.iaload, 1) := by decide +kernel
theorem dL_law_781 : decode cL_law 781 = .ok (.invokevirtual 103, 3) := by decide +kernel
theorem dL_law_784 : decode cL_law 784 = .ok (.if_icmp .eq 64, 3) := by decide +kernel
theorem dL_law_787 : decode cL_law 787 = .ok (.iconst 0, 1) := by decide +kernel
theorem dL_law_788 : decode cL_law 788 = .ok (.ireturn, 1) := by decide +kernel
theorem dL_law_789 : decode cL_law 789 = .ok (.aload_n 1, 1) := by decide +kernel
theorem dL_law_790 : decode cL_law 790 = .ok (.invokevirtual 104, 3) := by decide +kernel
theorem dL_law_793 : decode cL_law 793 = .ok (.aload_n 2, 1) := by decide +kernel
theorem dL_law_794 : decode cL_law 794 = .ok (.invokevirtual 107, 3) := by decide +kernel
theorem dL_law_797 : decode cL_law 797 = .ok (.if_icmp .eq 51, 3) := by decide +kernel
theorem dL_law_800 : decode cL_law 800 = .ok (.iconst 0, 1) := by decide +kernel
theorem dL_law_801 : decode cL_law 801 = .ok (.ireturn, 1) := by decide +kernel
theorem dL_law_802 : decode cL_law 802 = .ok (.aload_n 1, 1) := by decide +kernel
theorem dL_law_803 : decode cL_law 803 = .ok (.aload_n 0, 1) := by decide +kernel
theorem dL_law_804 : decode cL_law 804 = .ok (.iload_n 3, 1) := by decide +kernel
theorem dL_law_805 : decode cL_law 805 = .ok (.iconst 1, 1) := by decide +kernel
theorem dL_law_806 : decode cL_law 806 = .ok (.iadd, 1) := by decide +kernel
theorem dL_law_807 : decode cL_law 807 = .ok (.iaload, 1) := by decide +kernel
theorem dL_law_808 : decode cL_law 808 = .ok (.invokevirtual 108, 3) := by decide +kernel
theorem dL_law_811 : decode cL_law 811 = .ok (.aload_n 2, 1) := by decide +kernel
theorem dL_law_812 : decode cL_law 812 = .ok (.aload_n 0, 1) := by decide +kernel
theorem dL_law_813 : decode cL_law 813 = .ok (.iload_n 3, 1) := by decide +kernel
theorem dL_law_814 : decode cL_law 814 = .ok (.iconst 1, 1) := by decide +kernel
theorem dL_law_815 : decode cL_law 815 = .ok (.iadd, 1) := by decide +kernel
theorem dL_law_816 : decode cL_law 816 = .ok (.iaload, 1) := by decide +kernel
theorem dL_law_817 : decode cL_law 817 = .ok (.invokevirtual 112, 3) := by decide +kernel
theorem dL_law_820 : decode cL_law 820 = .ok (.if_icmp .eq 28, 3) := by decide +kernel
theorem dL_law_823 : decode cL_law 823 = .ok (.iconst 0, 1) := by decide +kernel
theorem dL_law_824 : decode cL_law 824 = .ok (.ireturn, 1) := by decide +kernel
theorem dL_law_825 : decode cL_law 825 = .ok (.aload_n 1, 1) := by decide +kernel
theorem dL_law_826 : decode cL_law 826 = .ok (.aload_n 0, 1) := by decide +kernel
theorem dL_law_827 : decode cL_law 827 = .ok (.iload_n 3, 1) := by decide +kernel
theorem dL_law_828 : decode cL_law 828 = .ok (.iconst 1, 1) := by decide +kernel
theorem dL_law_829 : decode cL_law 829 = .ok (.iadd, 1) := by decide +kernel

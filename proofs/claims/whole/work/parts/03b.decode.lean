theorem dX10_set_81 : decode cX10_set 81 = .ok (.aload_n 0, 1) := by decide +kernel
theorem dX10_set_82 : decode cX10_set 82 = .ok (.getfield 23, 3) := by decide +kernel
theorem dX10_set_85 : decode cX10_set 85 = .ok (.aload_n 0, 1) := by decide +kernel
theorem dX10_set_86 : decode cX10_set 86 = .ok (.getfield 10, 3) := by decide +kernel
theorem dX10_set_89 : decode cX10_set 89 = .ok (.getfield 102, 3) := by decide +kernel
theorem dX10_set_92 : decode cX10_set 92 = .ok (.invokevirtual 139, 3) := by decide +kernel
theorem dX10_set_95 : decode cX10_set 95 = .ok (.aload_n 0, 1) := by decide +kernel
theorem dX10_set_96 : decode cX10_set 96 = .ok (.getfield 30, 3) := by decide +kernel
theorem dX10_set_99 : decode cX10_set 99 = .ok (.getfield 121, 3) := by decide +kernel
theorem dX10_set_102 : decode cX10_set 102 = .ok (.istore 5, 2) := by decide +kernel
theorem dX10_set_104 : decode cX10_set 104 = .ok (.aload_n 3, 1) := by decide +kernel
theorem dX10_set_105 : decode cX10_set 105 = .ok (.getfield 132, 3) := by decide +kernel
theorem dX10_set_108 : decode cX10_set 108 = .ok (.iload_n 1, 1) := by decide +kernel
theorem dX10_set_109 : decode cX10_set 109 = .ok (.iload_n 2, 1) := by decide +kernel
theorem dX10_set_110 : decode cX10_set 110 = .ok (.iastore, 1) := by decide +kernel
theorem dX10_set_111 : decode cX10_set 111 = .ok (.aload_n 0, 1) := by decide +kernel
theorem dX10_set_112 : decode cX10_set 112 = .ok (.invokevirtual 62, 3) := by decide +kernel
theorem dX10_set_115 : decode cX10_set 115 = .ok (.iload_n 1, 1) := by decide +kernel
theorem dX10_set_116 : decode cX10_set 116 = .ok (.invokestatic 143, 3) := by decide +kernel
theorem dX10_set_119 : decode cX10_set 119 = .ok (.ifCond .ne 15, 3) := by decide +kernel
theorem dX10_set_122 : decode cX10_set 122 = .ok (.aload_n 0, 1) := by decide +kernel
theorem dX10_set_123 : decode cX10_set 123 = .ok (.getfield 30, 3) := by decide +kernel
theorem dX10_set_126 : decode cX10_set 126 = .ok (.getfield 121, 3) := by decide +kernel
theorem dX10_set_129 : decode cX10_set 129 = .ok (.iload 5, 2) := by decide +kernel
theorem dX10_set_131 : decode cX10_set 131 = .ok (.if_icmp .eq 13, 3) := by decide +kernel
theorem dX10_set_134 : decode cX10_set 134 = .ok (.aload_n 0, 1) := by decide +kernel
theorem dX10_set_135 : decode cX10_set 135 = .ok (.getfield 10, 3) := by decide +kernel
theorem dX10_set_138 : decode cX10_set 138 = .ok (.getfield 102, 3) := by decide +kernel
theorem dX10_set_141 : decode cX10_set 141 = .ok (.invokevirtual 115, 3) := by decide +kernel
theorem dX10_set_144 : decode cX10_set 144 = .ok (.aload_n 0, 1) := by decide +kernel
theorem dX10_set_145 : decode cX10_set 145 = .ok (.invokevirtual 146, 3) := by decide +kernel
theorem dX10_set_148 : decode cX10_set 148 = .ok (.ireturn, 1) := by decide +kernel
theorem dX10_bad_0 : decode cX10_bad 0 = .ok (.iload_n 1, 1) := by decide +kernel
theorem dX10_bad_1 : decode cX10_bad 1 = .ok (.iload_n 2, 1) := by decide +kernel
theorem dX10_bad_2 : decode cX10_bad 2 = .ok (.invokestatic 150, 3) := by decide +kernel
theorem dX10_bad_5 : decode cX10_bad 5 = .ok (.ifCond .eq 12, 3) := by decide +kernel
theorem dX10_bad_8 : decode cX10_bad 8 = .ok (.iload_n 3, 1) := by decide +kernel
theorem dX10_bad_9 : decode cX10_bad 9 = .ok (.ifCond .lt 8, 3) := by decide +kernel
theorem dX10_bad_12 : decode cX10_bad 12 = .ok (.iload_n 3, 1) := by decide +kernel
theorem dX10_bad_13 : decode cX10_bad 13 = .ok (.iconst 1, 1) := by decide +kernel
theorem dX10_bad_14 : decode cX10_bad 14 = .ok (.if_icmp .le 9, 3) := by decide +kernel
theorem dX10_bad_17 : decode cX10_bad 17 = .ok (.aload_n 0, 1) := by decide +kernel
theorem dX10_bad_18 : decode cX10_bad 18 = .ok (.iconst 1, 1) := by decide +kernel
theorem dX10_bad_19 : decode cX10_bad 19 = .ok (.invokevirtual 128, 3) := by decide +kernel
theorem dX10_bad_22 : decode cX10_bad 22 = .ok (.ireturn, 1) := by decide +kernel
theorem dX10_bad_23 : decode cX10_bad 23 = .ok (.aload_n 0, 1) := by decide +kernel
theorem dX10_bad_24 : decode cX10_bad 24 = .ok (.getfield 10, 3) := by decide +kernel
theorem dX10_bad_27 : decode cX10_bad 27 = .ok (.getfield 102, 3) := by decide +kernel
theorem dX10_bad_30 : decode cX10_bad 30 = .ok (.getfield 106, 3) := by decide +kernel
theorem dX10_bad_33 : decode cX10_bad 33 = .ok (.astore 4, 2) := by decide +kernel
theorem dX10_bad_35 : decode cX10_bad 35 = .ok (.aload 4, 2) := by decide +kernel
theorem dX10_bad_37 : decode cX10_bad 37 = .ok (.iload_n 1, 1) := by decide +kernel
theorem dX10_bad_38 : decode cX10_bad 38 = .ok (.iload_n 2, 1) := by decide +kernel
theorem dX10_bad_39 : decode cX10_bad 39 = .ok (.invokevirtual 153, 3) := by decide +kernel
theorem dX10_bad_42 : decode cX10_bad 42 = .ok (.iconst (-1), 1) := by decide +kernel
theorem dX10_bad_43 : decode cX10_bad 43 = .ok (.if_icmp .eq 9, 3) := by decide +kernel
theorem dX10_bad_46 : decode cX10_bad 46 = .ok (.aload_n 0, 1) := by decide +kernel
theorem dX10_bad_47 : decode cX10_bad 47 = .ok (.iconst 2, 1) := by decide +kernel
theorem dX10_bad_48 : decode cX10_bad 48 = .ok (.invokevirtual 128, 3) := by decide +kernel
theorem dX10_bad_51 : decode cX10_bad 51 = .ok (.ireturn, 1) := by decide +kernel
theorem dX10_bad_52 : decode cX10_bad 52 = .ok (.aload 4, 2) := by decide +kernel
theorem dX10_bad_54 : decode cX10_bad 54 = .ok (.getfield 157, 3) := by decide +kernel
theorem dX10_bad_57 : decode cX10_bad 57 = .ok (.bipush 12, 2) := by decide +kernel
theorem dX10_bad_59 : decode cX10_bad 59 = .ok (.if_icmp .lt 9, 3) := by decide +kernel
theorem dX10_bad_62 : decode cX10_bad 62 = .ok (.aload_n 0, 1) := by decide +kernel
theorem dX10_bad_63 : decode cX10_bad 63 = .ok (.iconst 3, 1) := by decide +kernel
theorem dX10_bad_64 : decode cX10_bad 64 = .ok (.invokevirtual 128, 3) := by decide +kernel
theorem dX10_bad_67 : decode cX10_bad 67 = .ok (.ireturn, 1) := by decide +kernel
theorem dX10_bad_68 : decode cX10_bad 68 = .ok (.iload_n 1, 1) := by decide +kernel
theorem dX10_bad_69 : decode cX10_bad 69 = .ok (.aload_n 0, 1) := by decide +kernel
theorem dX10_bad_70 : decode cX10_bad 70 = .ok (.getfield 30, 3) := by decide +kernel
theorem dX10_bad_73 : decode cX10_bad 73 = .ok (.getfield 160, 3) := by decide +kernel
theorem dX10_bad_76 : decode cX10_bad 76 = .ok (.if_icmp .ge 14, 3) := by decide +kernel
theorem dX10_bad_79 : decode cX10_bad 79 = .ok (.iload_n 2, 1) := by decide +kernel
theorem dX10_bad_80 : decode cX10_bad 80 = .ok (.aload_n 0, 1) := by decide +kernel
theorem dX10_bad_81 : decode cX10_bad 81 = .ok (.getfield 30, 3) := by decide +kernel
theorem dX10_bad_84 : decode cX10_bad 84 = .ok (.getfield 163, 3) := by decide +kernel
theorem dX10_bad_87 : decode cX10_bad 87 = .ok (.if_icmp .lt 10, 3) := by decide +kernel
theorem dX10_bad_90 : decode cX10_bad 90 = .ok (.aload_n 0, 1) := by decide +kernel
theorem dX10_bad_91 : decode cX10_bad 91 = .ok (.bipush 6, 2) := by decide +kernel
theorem dX10_bad_93 : decode cX10_bad 93 = .ok (.invokevirtual 136, 3) := by decide +kernel
theorem dX10_bad_96 : decode cX10_bad 96 = .ok (.ireturn, 1) := by decide +kernel
theorem dX10_bad_97 : decode cX10_bad 97 = .ok (.aload_n 0, 1) := by decide +kernel
theorem dX10_bad_98 : decode cX10_bad 98 = .ok (.getfield 23, 3) := by decide +kernel
theorem dX10_bad_101 : decode cX10_bad 101 = .ok (.aload_n 0, 1) := by decide +kernel
theorem dX10_bad_102 : decode cX10_bad 102 = .ok (.getfield 10, 3) := by decide +kernel
theorem dX10_bad_105 : decode cX10_bad 105 = .ok (.getfield 102, 3) := by decide +kernel
theorem dX10_bad_108 : decode cX10_bad 108 = .ok (.invokevirtual 139, 3) := by decide +kernel
theorem dX10_bad_111 : decode cX10_bad 111 = .ok (.aload 4, 2) := by decide +kernel
theorem dX10_bad_113 : decode cX10_bad 113 = .ok (.iload_n 1, 1) := by decide +kernel
theorem dX10_bad_114 : decode cX10_bad 114 = .ok (.iload_n 2, 1) := by decide +kernel
theorem dX10_bad_115 : decode cX10_bad 115 = .ok (.iload_n 3, 1) := by decide +kernel
theorem dX10_bad_116 : decode cX10_bad 116 = .ok (.invokevirtual 166, 3) := by decide +kernel
theorem dX10_bad_119 : decode cX10_bad 119 = .ok (.aload_n 0, 1) := by decide +kernel
theorem dX10_bad_120 : decode cX10_bad 120 = .ok (.invokevirtual 62, 3) := by decide +kernel
theorem dX10_bad_123 : decode cX10_bad 123 = .ok (.aload_n 0, 1) := by decide +kernel
theorem dX10_bad_124 : decode cX10_bad 124 = .ok (.invokevirtual 146, 3) := by decide +kernel
theorem dX10_bad_127 : decode cX10_bad 127 = .ok (.ireturn, 1) := by decide +kernel
theorem dX10_heal_0 : decode cX10_heal 0 = .ok (.iload_n 1, 1) := by decide +kernel
theorem dX10_heal_1 : decode cX10_heal 1 = .ok (.iload_n 2, 1) := by decide +kernel
theorem dX10_heal_2 : decode cX10_heal 2 = .ok (.invokestatic 150, 3) := by decide +kernel
theorem dX10_heal_5 : decode cX10_heal 5 = .ok (.ifCond .ne 9, 3) := by decide +kernel
theorem dX10_heal_8 : decode cX10_heal 8 = .ok (.aload_n 0, 1) := by decide +kernel
theorem dX10_heal_9 : decode cX10_heal 9 = .ok (.iconst 1, 1) := by decide +kernel
theorem dX10_heal_10 : decode cX10_heal 10 = .ok (.invokevirtual 128, 3) := by decide +kernel
theorem dX10_heal_13 : decode cX10_heal 13 = .ok (.ireturn, 1) := by decide +kernel
theorem dX10_heal_14 : decode cX10_heal 14 = .ok (.aload_n 0, 1) := by decide +kernel
theorem dX10_heal_15 : decode cX10_heal 15 = .ok (.getfield 10, 3) := by decide +kernel
theorem dX10_heal_18 : decode cX10_heal 18 = .ok (.getfield 102, 3) := by decide +kernel
theorem dX10_heal_21 : decode cX10_heal 21 = .ok (.getfield 106, 3) := by decide +kernel
theorem dX10_heal_24 : decode cX10_heal 24 = .ok (.astore_n 3, 1) := by decide +kernel
theorem dX10_heal_25 : decode cX10_heal 25 = .ok (.aload_n 3, 1) := by decide +kernel
theorem dX10_heal_26 : decode cX10_heal 26 = .ok (.iload_n 1, 1) := by decide +kernel
theorem dX10_heal_27 : decode cX10_heal 27 = .ok (.iload_n 2, 1) := by decide +kernel
theorem dX10_heal_28 : decode cX10_heal 28 = .ok (.invokevirtual 153, 3) := by decide +kernel
theorem dX10_heal_31 : decode cX10_heal 31 = .ok (.istore 4, 2) := by decide +kernel
theorem dX10_heal_33 : decode cX10_heal 33 = .ok (.iload 4, 2) := by decide +kernel
theorem dX10_heal_35 : decode cX10_heal 35 = .ok (.iconst (-1), 1) := by decide +kernel
theorem dX10_heal_36 : decode cX10_heal 36 = .ok (.if_icmp .ne 9, 3) := by decide +kernel
theorem dX10_heal_39 : decode cX10_heal 39 = .ok (.aload_n 0, 1) := by decide +kernel
theorem dX10_heal_40 : decode cX10_heal 40 = .ok (.iconst 2, 1) := by decide +kernel
theorem dX10_heal_41 : decode cX10_heal 41 = .ok (.invokevirtual 128, 3) := by decide +kernel
theorem dX10_heal_44 : decode cX10_heal 44 = .ok (.ireturn, 1) := by decide +kernel
theorem dX10_heal_45 : decode cX10_heal 45 = .ok (.aload_n 0, 1) := by decide +kernel
theorem dX10_heal_46 : decode cX10_heal 46 = .ok (.getfield 23, 3) := by decide +kernel
theorem dX10_heal_49 : decode cX10_heal 49 = .ok (.aload_n 0, 1) := by decide +kernel
theorem dX10_heal_50 : decode cX10_heal 50 = .ok (.getfield 10, 3) := by decide +kernel
theorem dX10_heal_53 : decode cX10_heal 53 = .ok (.getfield 102, 3) := by decide +kernel
theorem dX10_heal_56 : decode cX10_heal 56 = .ok (.invokevirtual 139, 3) := by decide +kernel
theorem dX10_heal_59 : decode cX10_heal 59 = .ok (.aload_n 3, 1) := by decide +kernel
theorem dX10_heal_60 : decode cX10_heal 60 = .ok (.iload 4, 2) := by decide +kernel
theorem dX10_heal_62 : decode cX10_heal 62 = .ok (.invokevirtual 170, 3) := by decide +kernel
theorem dX10_heal_65 : decode cX10_heal 65 = .ok (.aload_n 0, 1) := by decide +kernel
theorem dX10_heal_66 : decode cX10_heal 66 = .ok (.invokevirtual 62, 3) := by decide +kernel
theorem dX10_heal_69 : decode cX10_heal 69 = .ok (.aload_n 0, 1) := by decide +kernel
theorem dX10_heal_70 : decode cX10_heal 70 = .ok (.invokevirtual 146, 3) := by decide +kernel
theorem dX10_heal_73 : decode cX10_heal 73 = .ok (.ireturn, 1) := by decide +kernel
theorem dX10_write_0 : decode cX10_write 0 = .ok (.aload_n 0, 1) := by decide +kernel
theorem dX10_write_1 : decode cX10_write 1 = .ok (.iload_n 1, 1) := by decide +kernel
theorem dX10_write_2 : decode cX10_write 2 = .ok (.invokevirtual 173, 3) := by decide +kernel
theorem dX10_write_5 : decode cX10_write 5 = .ok (.ifCond .ne 9, 3) := by decide +kernel
theorem dX10_write_8 : decode cX10_write 8 = .ok (.aload_n 0, 1) := by decide +kernel
theorem dX10_write_9 : decode cX10_write 9 = .ok (.iconst 1, 1) := by decide +kernel
theorem dX10_write_10 : decode cX10_write 10 = .ok (.invokevirtual 128, 3) := by decide +kernel
theorem dX10_write_13 : decode cX10_write 13 = .ok (.ireturn, 1) := by decide +kernel
theorem dX10_write_14 : decode cX10_write 14 = .ok (.aload_n 0, 1) := by decide +kernel
theorem dX10_write_15 : decode cX10_write 15 = .ok (.getfield 23, 3) := by decide +kernel
theorem dX10_write_18 : decode cX10_write 18 = .ok (.aload_n 0, 1) := by decide +kernel
theorem dX10_write_19 : decode cX10_write 19 = .ok (.getfield 10, 3) := by decide +kernel
theorem dX10_write_22 : decode cX10_write 22 = .ok (.getfield 102, 3) := by decide +kernel
theorem dX10_write_25 : decode cX10_write 25 = .ok (.invokevirtual 139, 3) := by decide +kernel
theorem dX10_write_28 : decode cX10_write 28 = .ok (.aload_n 0, 1) := by decide +kernel
theorem dX10_write_29 : decode cX10_write 29 = .ok (.getfield 30, 3) := by decide +kernel
theorem dX10_write_32 : decode cX10_write 32 = .ok (.aload_n 0, 1) := by decide +kernel
theorem dX10_write_33 : decode cX10_write 33 = .ok (.getfield 10, 3) := by decide +kernel
theorem dX10_write_36 : decode cX10_write 36 = .ok (.getfield 102, 3) := by decide +kernel
theorem dX10_write_39 : decode cX10_write 39 = .ok (.iload_n 1, 1) := by decide +kernel
theorem dX10_write_40 : decode cX10_write 40 = .ok (.iload_n 2, 1) := by decide +kernel
theorem dX10_write_41 : decode cX10_write 41 = .ok (.invokevirtual 176, 3) := by decide +kernel
theorem dX10_write_44 : decode cX10_write 44 = .ok (.aload_n 0, 1) := by decide +kernel
theorem dX10_write_45 : decode cX10_write 45 = .ok (.invokevirtual 146, 3) := by decide +kernel
theorem dX10_write_48 : decode cX10_write 48 = .ok (.ireturn, 1) := by decide +kernel
theorem dX10_why_0 : decode cX10_why 0 = .ok (.iload_n 1, 1) := by decide +kernel
theorem dX10_why_1 : decode cX10_why 1 = .ok (.tableswitch 51 0 2 #[27, 35, 43], 27) := by decide +kernel
theorem dX10_why_28 : decode cX10_why 28 = .ok (.aload_n 0, 1) := by decide +kernel
theorem dX10_why_29 : decode cX10_why 29 = .ok (.getfield 10, 3) := by decide +kernel
theorem dX10_why_32 : decode cX10_why 32 = .ok (.getfield 180, 3) := by decide +kernel
theorem dX10_why_35 : decode cX10_why 35 = .ok (.ireturn, 1) := by decide +kernel
theorem dX10_why_36 : decode cX10_why 36 = .ok (.aload_n 0, 1) := by decide +kernel
theorem dX10_why_37 : decode cX10_why 37 = .ok (.getfield 10, 3) := by decide +kernel
theorem dX10_why_40 : decode cX10_why 40 = .ok (.getfield 183, 3) := by decide +kernel
theorem dX10_why_43 : decode cX10_why 43 = .ok (.ireturn, 1) := by decide +kernel
theorem dX10_why_44 : decode cX10_why 44 = .ok (.aload_n 0, 1) := by decide +kernel
theorem dX10_why_45 : decode cX10_why 45 = .ok (.getfield 10, 3) := by decide +kernel
theorem dX10_why_48 : decode cX10_why 48 = .ok (.getfield 186, 3) := by decide +kernel
theorem dX10_why_51 : decode cX10_why 51 = .ok (.ireturn, 1) := by decide +kernel
theorem dX10_why_52 : decode cX10_why 52 = .ok (.iconst (-1), 1) := by decide +kernel
theorem dX10_why_53 : decode cX10_why 53 = .ok (.ireturn, 1) := by decide +kernel
theorem dX10_undo_0 : decode cX10_undo 0 = .ok (.aload_n 0, 1) := by decide +kernel
theorem dX10_undo_1 : decode cX10_undo 1 = .ok (.getfield 23, 3) := by decide +kernel
theorem dX10_undo_4 : decode cX10_undo 4 = .ok (.aload_n 0, 1) := by decide +kernel
theorem dX10_undo_5 : decode cX10_undo 5 = .ok (.getfield 10, 3) := by decide +kernel
theorem dX10_undo_8 : decode cX10_undo 8 = .ok (.getfield 102, 3) := by decide +kernel
theorem dX10_undo_11 : decode cX10_undo 11 = .ok (.invokevirtual 189, 3) := by decide +kernel
theorem dX10_undo_14 : decode cX10_undo 14 = .ok (.ifCond .ne 5, 3) := by decide +kernel
theorem dX10_undo_17 : decode cX10_undo 17 = .ok (.iconst (-1), 1) := by decide +kernel
theorem dX10_undo_18 : decode cX10_undo 18 = .ok (.ireturn, 1) := by decide +kernel
theorem dX10_undo_19 : decode cX10_undo 19 = .ok (.aload_n 0, 1) := by decide +kernel
theorem dX10_undo_20 : decode cX10_undo 20 = .ok (.invokevirtual 62, 3) := by decide +kernel
theorem dX10_undo_23 : decode cX10_undo 23 = .ok (.aload_n 0, 1) := by decide +kernel
theorem dX10_undo_24 : decode cX10_undo 24 = .ok (.getfield 23, 3) := by decide +kernel
theorem dX10_undo_27 : decode cX10_undo 27 = .ok (.getfield 193, 3) := by decide +kernel
theorem dX10_undo_30 : decode cX10_undo 30 = .ok (.ireturn, 1) := by decide +kernel
theorem dX10_count_0 : decode cX10_count 0 = .ok (.aload_n 0, 1) := by decide +kernel
theorem dX10_count_1 : decode cX10_count 1 = .ok (.getfield 10, 3) := by decide +kernel
theorem dX10_count_4 : decode cX10_count 4 = .ok (.getfield 102, 3) := by decide +kernel
theorem dX10_count_7 : decode cX10_count 7 = .ok (.getfield 106, 3) := by decide +kernel
theorem dX10_count_10 : decode cX10_count 10 = .ok (.astore_n 2, 1) := by decide +kernel
theorem dX10_count_11 : decode cX10_count 11 = .ok (.iload_n 1, 1) := by decide +kernel
theorem dX10_count_12 : decode cX10_count 12 = .ok (.ifCond .lt 16, 3) := by decide +kernel
theorem dX10_count_15 : decode cX10_count 15 = .ok (.iload_n 1, 1) := by decide +kernel
theorem dX10_count_16 : decode cX10_count 16 = .ok (.bipush 9, 2) := by decide +kernel
theorem dX10_count_18 : decode cX10_count 18 = .ok (.if_icmp .ge 10, 3) := by decide +kernel
theorem dX10_count_21 : decode cX10_count 21 = .ok (.aload_n 2, 1) := by decide +kernel
theorem dX10_count_22 : decode cX10_count 22 = .ok (.getfield 132, 3) := by decide +kernel
theorem dX10_count_25 : decode cX10_count 25 = .ok (.iload_n 1, 1) := by decide +kernel
theorem dX10_count_26 : decode cX10_count 26 = .ok (.iaload, 1) := by decide +kernel
theorem dX10_count_27 : decode cX10_count 27 = .ok (.ireturn, 1) := by decide +kernel
theorem dX10_count_28 : decode cX10_count 28 = .ok (.iload_n 1, 1) := by decide +kernel
theorem dX10_count_29 : decode cX10_count 29 = .ok (.tableswitch 159 9 17 #[51, 56, 64, 83, 94, 105, 120, 128, 139], 51) := by decide +kernel
theorem dX10_count_80 : decode cX10_count 80 = .ok (.aload_n 2, 1) := by decide +kernel
theorem dX10_count_81 : decode cX10_count 81 = .ok (.getfield 157, 3) := by decide +kernel
theorem dX10_count_84 : decode cX10_count 84 = .ok (.ireturn, 1) := by decide +kernel
theorem dX10_count_85 : decode cX10_count 85 = .ok (.aload_n 0, 1) := by decide +kernel
theorem dX10_count_86 : decode cX10_count 86 = .ok (.getfield 30, 3) := by decide +kernel
theorem dX10_count_89 : decode cX10_count 89 = .ok (.getfield 121, 3) := by decide +kernel
theorem dX10_count_92 : decode cX10_count 92 = .ok (.ireturn, 1) := by decide +kernel
theorem dX10_count_93 : decode cX10_count 93 = .ok (.aload_n 0, 1) := by decide +kernel
theorem dX10_count_94 : decode cX10_count 94 = .ok (.getfield 30, 3) := by decide +kernel
theorem dX10_count_97 : decode cX10_count 97 = .ok (.getfield 196, 3) := by decide +kernel
theorem dX10_count_100 : decode cX10_count 100 = .ok (.getfield 200, 3) := by decide +kernel
theorem dX10_count_103 : decode cX10_count 103 = .ok (.ifCond .eq 7, 3) := by decide +kernel
theorem dX10_count_106 : decode cX10_count 106 = .ok (.iconst 1, 1) := by decide +kernel
theorem dX10_count_107 : decode cX10_count 107 = .ok (.goto 4, 3) := by decide +kernel
theorem dX10_count_110 : decode cX10_count 110 = .ok (.iconst 0, 1) := by decide +kernel
theorem dX10_count_111 : decode cX10_count 111 = .ok (.ireturn, 1) := by decide +kernel
theorem dX10_count_112 : decode cX10_count 112 = .ok (.aload_n 0, 1) := by decide +kernel
theorem dX10_count_113 : decode cX10_count 113 = .ok (.getfield 30, 3) := by decide +kernel
theorem dX10_count_116 : decode cX10_count 116 = .ok (.getfield 196, 3) := by decide +kernel
theorem dX10_count_119 : decode cX10_count 119 = .ok (.getfield 206, 3) := by decide +kernel
theorem dX10_count_122 : decode cX10_count 122 = .ok (.ireturn, 1) := by decide +kernel
theorem dX10_count_123 : decode cX10_count 123 = .ok (.aload_n 0, 1) := by decide +kernel
theorem dX10_count_124 : decode cX10_count 124 = .ok (.getfield 30, 3) := by decide +kernel
theorem dX10_count_127 : decode cX10_count 127 = .ok (.getfield 196, 3) := by decide +kernel
theorem dX10_count_130 : decode cX10_count 130 = .ok (.getfield 209, 3) := by decide +kernel
theorem dX10_count_133 : decode cX10_count 133 = .ok (.ireturn, 1) := by decide +kernel
theorem dX10_count_134 : decode cX10_count 134 = .ok (.aload_n 0, 1) := by decide +kernel
theorem dX10_count_135 : decode cX10_count 135 = .ok (.getfield 30, 3) := by decide +kernel
theorem dX10_count_138 : decode cX10_count 138 = .ok (.aload_n 0, 1) := by decide +kernel
theorem dX10_count_139 : decode cX10_count 139 = .ok (.getfield 10, 3) := by decide +kernel
theorem dX10_count_142 : decode cX10_count 142 = .ok (.getfield 102, 3) := by decide +kernel
theorem dX10_count_145 : decode cX10_count 145 = .ok (.invokevirtual 212, 3) := by decide +kernel
theorem dX10_count_148 : decode cX10_count 148 = .ok (.ireturn, 1) := by decide +kernel
theorem dX10_count_149 : decode cX10_count 149 = .ok (.aload_n 0, 1) := by decide +kernel
theorem dX10_count_150 : decode cX10_count 150 = .ok (.getfield 23, 3) := by decide +kernel
theorem dX10_count_153 : decode cX10_count 153 = .ok (.getfield 193, 3) := by decide +kernel
theorem dX10_count_156 : decode cX10_count 156 = .ok (.ireturn, 1) := by decide +kernel
theorem dX10_count_157 : decode cX10_count 157 = .ok (.aload_n 0, 1) := by decide +kernel
theorem dX10_count_158 : decode cX10_count 158 = .ok (.getfield 10, 3) := by decide +kernel
theorem dX10_count_161 : decode cX10_count 161 = .ok (.getfield 65, 3) := by decide +kernel
theorem dX10_count_164 : decode cX10_count 164 = .ok (.getfield 79, 3) := by decide +kernel
theorem dX10_count_167 : decode cX10_count 167 = .ok (.ireturn, 1) := by decide +kernel
theorem dX10_count_168 : decode cX10_count 168 = .ok (.aload_n 0, 1) := by decide +kernel
theorem dX10_count_169 : decode cX10_count 169 = .ok (.getfield 30, 3) := by decide +kernel
theorem dX10_count_172 : decode cX10_count 172 = .ok (.aload_n 2, 1) := by decide +kernel
theorem dX10_count_173 : decode cX10_count 173 = .ok (.iconst 0, 1) := by decide +kernel
theorem dX10_count_174 : decode cX10_count 174 = .ok (.invokevirtual 216, 3) := by decide +kernel
theorem dX10_count_177 : decode cX10_count 177 = .ok (.aload_n 0, 1) := by decide +kernel
theorem dX10_count_178 : decode cX10_count 178 = .ok (.getfield 30, 3) := by decide +kernel
theorem dX10_count_181 : decode cX10_count 181 = .ok (.aload_n 2, 1) := by decide +kernel
theorem dX10_count_182 : decode cX10_count 182 = .ok (.iconst 1, 1) := by decide +kernel
theorem dX10_count_183 : decode cX10_count 183 = .ok (.invokevirtual 216, 3) := by decide +kernel
theorem dX10_count_186 : decode cX10_count 186 = .ok (.iadd, 1) := by decide +kernel
theorem dX10_count_187 : decode cX10_count 187 = .ok (.ireturn, 1) := by decide +kernel
theorem dX10_count_188 : decode cX10_count 188 = .ok (.iconst (-1), 1) := by decide +kernel
theorem dX10_count_189 : decode cX10_count 189 = .ok (.ireturn, 1) := by decide +kernel
theorem dX10_shape_0 : decode cX10_shape 0 = .ok (.aload_n 0, 1) := by decide +kernel
theorem dX10_shape_1 : decode cX10_shape 1 = .ok (.getfield 10, 3) := by decide +kernel
theorem dX10_shape_4 : decode cX10_shape 4 = .ok (.getfield 102, 3) := by decide +kernel
theorem dX10_shape_7 : decode cX10_shape 7 = .ok (.getfield 106, 3) := by decide +kernel
theorem dX10_shape_10 : decode cX10_shape 10 = .ok (.getfield 132, 3) := by decide +kernel
theorem dX10_shape_13 : decode cX10_shape 13 = .ok (.astore_n 3, 1) := by decide +kernel
theorem dX10_shape_14 : decode cX10_shape 14 = .ok (.aload_n 0, 1) := by decide +kernel
theorem dX10_shape_15 : decode cX10_shape 15 = .ok (.getfield 37, 3) := by decide +kernel
theorem dX10_shape_18 : decode cX10_shape 18 = .ok (.aload_n 3, 1) := by decide +kernel
theorem dX10_shape_19 : decode cX10_shape 19 = .ok (.aload_n 3, 1) := by decide +kernel
theorem dX10_shape_20 : decode cX10_shape 20 = .ok (.iconst 0, 1) := by decide +kernel
theorem dX10_shape_21 : decode cX10_shape 21 = .ok (.iaload, 1) := by decide +kernel
theorem dX10_shape_22 : decode cX10_shape 22 = .ok (.iload_n 1, 1) := by decide +kernel
theorem dX10_shape_23 : decode cX10_shape 23 = .ok (.invokevirtual 220, 3) := by decide +kernel
theorem dX10_shape_26 : decode cX10_shape 26 = .ok (.ifCond .eq 14, 3) := by decide +kernel
theorem dX10_shape_29 : decode cX10_shape 29 = .ok (.aload_n 0, 1) := by decide +kernel
theorem dX10_shape_30 : decode cX10_shape 30 = .ok (.getfield 37, 3) := by decide +kernel
theorem dX10_shape_33 : decode cX10_shape 33 = .ok (.iload_n 2, 1) := by decide +kernel
theorem dX10_shape_34 : decode cX10_shape 34 = .ok (.invokevirtual 224, 3) := by decide +kernel
theorem dX10_shape_37 : decode cX10_shape 37 = .ok (.goto 4, 3) := by decide +kernel
theorem dX10_shape_40 : decode cX10_shape 40 = .ok (.iconst (-1), 1) := by decide +kernel
theorem dX10_shape_41 : decode cX10_shape 41 = .ok (.ireturn, 1) := by decide +kernel
theorem dX10_wished_0 : decode cX10_wished 0 = .ok (.iload_n 1, 1) := by decide +kernel
theorem dX10_wished_1 : decode cX10_wished 1 = .ok (.ifCond .lt 8, 3) := by decide +kernel
theorem dX10_wished_4 : decode cX10_wished 4 = .ok (.iload_n 1, 1) := by decide +kernel
theorem dX10_wished_5 : decode cX10_wished 5 = .ok (.iconst 3, 1) := by decide +kernel
theorem dX10_wished_6 : decode cX10_wished 6 = .ok (.if_icmp .lt 5, 3) := by decide +kernel
theorem dX10_wished_9 : decode cX10_wished 9 = .ok (.iconst (-1), 1) := by decide +kernel
theorem dX10_wished_10 : decode cX10_wished 10 = .ok (.ireturn, 1) := by decide +kernel
theorem dX10_wished_11 : decode cX10_wished 11 = .ok (.aload_n 0, 1) := by decide +kernel
theorem dX10_wished_12 : decode cX10_wished 12 = .ok (.getfield 37, 3) := by decide +kernel
theorem dX10_wished_15 : decode cX10_wished 15 = .ok (.aload_n 0, 1) := by decide +kernel
theorem dX10_wished_16 : decode cX10_wished 16 = .ok (.getfield 10, 3) := by decide +kernel
theorem dX10_wished_19 : decode cX10_wished 19 = .ok (.getfield 102, 3) := by decide +kernel
theorem dX10_wished_22 : decode cX10_wished 22 = .ok (.getfield 106, 3) := by decide +kernel
theorem dX10_wished_25 : decode cX10_wished 25 = .ok (.getfield 132, 3) := by decide +kernel
theorem dX10_wished_28 : decode cX10_wished 28 = .ok (.iload_n 1, 1) := by decide +kernel
theorem dX10_wished_29 : decode cX10_wished 29 = .ok (.invokevirtual 227, 3) := by decide +kernel
theorem dX10_wished_32 : decode cX10_wished 32 = .ok (.ireturn, 1) := by decide +kernel
theorem dX10_given_0 : decode cX10_given 0 = .ok (.aload_n 0, 1) := by decide +kernel
theorem dX10_given_1 : decode cX10_given 1 = .ok (.getfield 30, 3) := by decide +kernel
theorem dX10_given_4 : decode cX10_given 4 = .ok (.getfield 196, 3) := by decide +kernel
theorem dX10_given_7 : decode cX10_given 7 = .ok (.astore_n 3, 1) := by decide +kernel
theorem dX10_given_8 : decode cX10_given 8 = .ok (.iload_n 1, 1) := by decide +kernel
theorem dX10_given_9 : decode cX10_given 9 = .ok (.ifCond .lt 22, 3) := by decide +kernel
theorem dX10_given_12 : decode cX10_given 12 = .ok (.iload_n 1, 1) := by decide +kernel
theorem dX10_given_13 : decode cX10_given 13 = .ok (.iload_n 2, 1) := by decide +kernel
theorem dX10_given_14 : decode cX10_given 14 = .ok (.ifCond .eq 10, 3) := by decide +kernel
theorem dX10_given_17 : decode cX10_given 17 = .ok (.aload_n 3, 1) := by decide +kernel
theorem dX10_given_18 : decode cX10_given 18 = .ok (.getfield 209, 3) := by decide +kernel
theorem dX10_given_21 : decode cX10_given 21 = .ok (.goto 7, 3) := by decide +kernel
theorem dX10_given_24 : decode cX10_given 24 = .ok (.aload_n 3, 1) := by decide +kernel
theorem dX10_given_25 : decode cX10_given 25 = .ok (.getfield 206, 3) := by decide +kernel
theorem dX10_given_28 : decode cX10_given 28 = .ok (.if_icmp .lt 5, 3) := by decide +kernel
theorem dX10_given_31 : decode cX10_given 31 = .ok (.iconst (-1), 1) := by decide +kernel
theorem dX10_given_32 : decode cX10_given 32 = .ok (.ireturn, 1) := by decide +kernel
theorem dX10_given_33 : decode cX10_given 33 = .ok (.iload_n 2, 1) := by decide +kernel
theorem dX10_given_34 : decode cX10_given 34 = .ok (.ifCond .eq 12, 3) := by decide +kernel
theorem dX10_given_37 : decode cX10_given 37 = .ok (.aload_n 3, 1) := by decide +kernel
theorem dX10_given_38 : decode cX10_given 38 = .ok (.getfield 231, 3) := by decide +kernel
theorem dX10_given_41 : decode cX10_given 41 = .ok (.iload_n 1, 1) := by decide +kernel
theorem dX10_given_42 : decode cX10_given 42 = .ok (.iaload, 1) := by decide +kernel
theorem dX10_given_43 : decode cX10_given 43 = .ok (.goto 9, 3) := by decide +kernel
theorem dX10_given_46 : decode cX10_given 46 = .ok (.aload_n 3, 1) := by decide +kernel
theorem dX10_given_47 : decode cX10_given 47 = .ok (.getfield 233, 3) := by decide +kernel
theorem dX10_given_50 : decode cX10_given 50 = .ok (.iload_n 1, 1) := by decide +kernel
theorem dX10_given_51 : decode cX10_given 51 = .ok (.iaload, 1) := by decide +kernel
theorem dX10_given_52 : decode cX10_given 52 = .ok (.ireturn, 1) := by decide +kernel
theorem dX10_cell_0 : decode cX10_cell 0 = .ok (.aload_n 0, 1) := by decide +kernel
theorem dX10_cell_1 : decode cX10_cell 1 = .ok (.getfield 10, 3) := by decide +kernel
theorem dX10_cell_4 : decode cX10_cell 4 = .ok (.getfield 102, 3) := by decide +kernel
theorem dX10_cell_7 : decode cX10_cell 7 = .ok (.getfield 106, 3) := by decide +kernel
theorem dX10_cell_10 : decode cX10_cell 10 = .ok (.astore_n 3, 1) := by decide +kernel
theorem dX10_cell_11 : decode cX10_cell 11 = .ok (.iload_n 1, 1) := by decide +kernel
theorem dX10_cell_12 : decode cX10_cell 12 = .ok (.ifCond .lt 11, 3) := by decide +kernel
theorem dX10_cell_15 : decode cX10_cell 15 = .ok (.iload_n 1, 1) := by decide +kernel
theorem dX10_cell_16 : decode cX10_cell 16 = .ok (.aload_n 3, 1) := by decide +kernel
theorem dX10_cell_17 : decode cX10_cell 17 = .ok (.getfield 157, 3) := by decide +kernel
theorem dX10_cell_20 : decode cX10_cell 20 = .ok (.if_icmp .lt 5, 3) := by decide +kernel
theorem dX10_cell_23 : decode cX10_cell 23 = .ok (.iconst (-1), 1) := by decide +kernel
theorem dX10_cell_24 : decode cX10_cell 24 = .ok (.ireturn, 1) := by decide +kernel
theorem dX10_cell_25 : decode cX10_cell 25 = .ok (.iload_n 2, 1) := by decide +kernel
theorem dX10_cell_26 : decode cX10_cell 26 = .ok (.tableswitch 70 0 3 #[30, 37, 44, 51], 30) := by decide +kernel
theorem dX10_cell_56 : decode cX10_cell 56 = .ok (.aload_n 3, 1) := by decide +kernel
theorem dX10_cell_57 : decode cX10_cell 57 = .ok (.getfield 235, 3) := by decide +kernel
theorem dX10_cell_60 : decode cX10_cell 60 = .ok (.iload_n 1, 1) := by decide +kernel
theorem dX10_cell_61 : decode cX10_cell 61 = .ok (.iaload, 1) := by decide +kernel
theorem dX10_cell_62 : decode cX10_cell 62 = .ok (.ireturn, 1) := by decide +kernel
theorem dX10_cell_63 : decode cX10_cell 63 = .ok (.aload_n 3, 1) := by decide +kernel
theorem dX10_cell_64 : decode cX10_cell 64 = .ok (.getfield 238, 3) := by decide +kernel
theorem dX10_cell_67 : decode cX10_cell 67 = .ok (.iload_n 1, 1) := by decide +kernel
theorem dX10_cell_68 : decode cX10_cell 68 = .ok (.iaload, 1) := by decide +kernel
theorem dX10_cell_69 : decode cX10_cell 69 = .ok (.ireturn, 1) := by decide +kernel
theorem dX10_cell_70 : decode cX10_cell 70 = .ok (.aload_n 3, 1) := by decide +kernel
theorem dX10_cell_71 : decode cX10_cell 71 = .ok (.getfield 241, 3) := by decide +kernel
theorem dX10_cell_74 : decode cX10_cell 74 = .ok (.iload_n 1, 1) := by decide +kernel
theorem dX10_cell_75 : decode cX10_cell 75 = .ok (.iaload, 1) := by decide +kernel
theorem dX10_cell_76 : decode cX10_cell 76 = .ok (.ireturn, 1) := by decide +kernel
theorem dX10_cell_77 : decode cX10_cell 77 = .ok (.aload_n 0, 1) := by decide +kernel
theorem dX10_cell_78 : decode cX10_cell 78 = .ok (.getfield 30, 3) := by decide +kernel
theorem dX10_cell_81 : decode cX10_cell 81 = .ok (.getfield 196, 3) := by decide +kernel
theorem dX10_cell_84 : decode cX10_cell 84 = .ok (.getfield 200, 3) := by decide +kernel
theorem dX10_cell_87 : decode cX10_cell 87 = .ok (.ifCond .eq 7, 3) := by decide +kernel
theorem dX10_cell_90 : decode cX10_cell 90 = .ok (.iconst 1, 1) := by decide +kernel
theorem dX10_cell_91 : decode cX10_cell 91 = .ok (.goto 4, 3) := by decide +kernel
theorem dX10_cell_94 : decode cX10_cell 94 = .ok (.iconst 0, 1) := by decide +kernel
theorem dX10_cell_95 : decode cX10_cell 95 = .ok (.ireturn, 1) := by decide +kernel
theorem dX10_cell_96 : decode cX10_cell 96 = .ok (.iconst (-1), 1) := by decide +kernel
theorem dX10_cell_97 : decode cX10_cell 97 = .ok (.ireturn, 1) := by decide +kernel
theorem dX10_place_0 : decode cX10_place 0 = .ok (.aload_n 0, 1) := by decide +kernel
theorem dX10_place_1 : decode cX10_place 1 = .ok (.getfield 10, 3) := by decide +kernel
theorem dX10_place_4 : decode cX10_place 4 = .ok (.getfield 102, 3) := by decide +kernel
theorem dX10_place_7 : decode cX10_place 7 = .ok (.getfield 106, 3) := by decide +kernel
theorem dX10_place_10 : decode cX10_place 10 = .ok (.astore 4, 2) := by decide +kernel
theorem dX10_place_12 : decode cX10_place 12 = .ok (.aload_n 0, 1) := by decide +kernel
theorem dX10_place_13 : decode cX10_place 13 = .ok (.iload_n 1, 1) := by decide +kernel
theorem dX10_place_14 : decode cX10_place 14 = .ok (.invokevirtual 173, 3) := by decide +kernel
theorem dX10_place_17 : decode cX10_place 17 = .ok (.ifCond .eq 18, 3) := by decide +kernel
theorem dX10_place_20 : decode cX10_place 20 = .ok (.iload_n 2, 1) := by decide +kernel
theorem dX10_place_21 : decode cX10_place 21 = .ok (.ifCond .lt 14, 3) := by decide +kernel
theorem dX10_place_24 : decode cX10_place 24 = .ok (.iload_n 2, 1) := by decide +kernel
theorem dX10_place_25 : decode cX10_place 25 = .ok (.aload 4, 2) := by decide +kernel
theorem dX10_place_27 : decode cX10_place 27 = .ok (.getfield 132, 3) := by decide +kernel
theorem dX10_place_30 : decode cX10_place 30 = .ok (.iconst 1, 1) := by decide +kernel
theorem dX10_place_31 : decode cX10_place 31 = .ok (.iaload, 1) := by decide +kernel
theorem dX10_place_32 : decode cX10_place 32 = .ok (.if_icmp .lt 5, 3) := by decide +kernel
theorem dX10_place_35 : decode cX10_place 35 = .ok (.iconst (-1), 1) := by decide +kernel
theorem dX10_place_36 : decode cX10_place 36 = .ok (.ireturn, 1) := by decide +kernel
theorem dX10_place_37 : decode cX10_place 37 = .ok (.aload_n 0, 1) := by decide +kernel
theorem dX10_place_38 : decode cX10_place 38 = .ok (.getfield 30, 3) := by decide +kernel
theorem dX10_place_41 : decode cX10_place 41 = .ok (.iload_n 1, 1) := by decide +kernel
theorem dX10_place_42 : decode cX10_place 42 = .ok (.invokevirtual 244, 3) := by decide +kernel
theorem dX10_place_45 : decode cX10_place 45 = .ok (.istore 5, 2) := by decide +kernel
theorem dX10_place_47 : decode cX10_place 47 = .ok (.aload_n 0, 1) := by decide +kernel
theorem dX10_place_48 : decode cX10_place 48 = .ok (.getfield 30, 3) := by decide +kernel
theorem dX10_place_51 : decode cX10_place 51 = .ok (.iload_n 1, 1) := by decide +kernel
theorem dX10_place_52 : decode cX10_place 52 = .ok (.iload_n 2, 1) := by decide +kernel
theorem dX10_place_53 : decode cX10_place 53 = .ok (.invokevirtual 247, 3) := by decide +kernel
theorem dX10_place_56 : decode cX10_place 56 = .ok (.istore 6, 2) := by decide +kernel
theorem dX10_place_58 : decode cX10_place 58 = .ok (.iload_n 3, 1) := by decide +kernel
theorem dX10_place_59 : decode cX10_place 59 = .ok (.tableswitch 101 0 3 #[29, 39, 49, 69], 29) := by decide +kernel
theorem dX10_place_88 : decode cX10_place 88 = .ok (.aload_n 0, 1) := by decide +kernel
theorem dX10_place_89 : decode cX10_place 89 = .ok (.getfield 30, 3) := by decide +kernel
theorem dX10_place_92 : decode cX10_place 92 = .ok (.iload 5, 2) := by decide +kernel
theorem dX10_place_94 : decode cX10_place 94 = .ok (.invokevirtual 250, 3) := by decide +kernel
theorem dX10_place_97 : decode cX10_place 97 = .ok (.ireturn, 1) := by decide +kernel
theorem dX10_place_98 : decode cX10_place 98 = .ok (.aload_n 0, 1) := by decide +kernel
theorem dX10_place_99 : decode cX10_place 99 = .ok (.getfield 30, 3) := by decide +kernel
theorem dX10_place_102 : decode cX10_place 102 = .ok (.iload 6, 2) := by decide +kernel
theorem dX10_place_104 : decode cX10_place 104 = .ok (.invokevirtual 253, 3) := by decide +kernel
theorem dX10_place_107 : decode cX10_place 107 = .ok (.ireturn, 1) := by decide +kernel
theorem dX10_place_108 : decode cX10_place 108 = .ok (.aload_n 0, 1) := by decide +kernel
theorem dX10_place_109 : decode cX10_place 109 = .ok (.getfield 30, 3) := by decide +kernel
theorem dX10_place_112 : decode cX10_place 112 = .ok (.aload_n 0, 1) := by decide +kernel
theorem dX10_place_113 : decode cX10_place 113 = .ok (.getfield 10, 3) := by decide +kernel
theorem dX10_place_116 : decode cX10_place 116 = .ok (.getfield 102, 3) := by decide +kernel
theorem dX10_place_119 : decode cX10_place 119 = .ok (.iload_n 1, 1) := by decide +kernel
theorem dX10_place_120 : decode cX10_place 120 = .ok (.invokevirtual 256, 3) := by decide +kernel
theorem dX10_place_123 : decode cX10_place 123 = .ok (.iload_n 2, 1) := by decide +kernel
theorem dX10_place_124 : decode cX10_place 124 = .ok (.iushr, 1) := by decide +kernel
theorem dX10_place_125 : decode cX10_place 125 = .ok (.iconst 1, 1) := by decide +kernel
theorem dX10_place_126 : decode cX10_place 126 = .ok (.iand, 1) := by decide +kernel
theorem dX10_place_127 : decode cX10_place 127 = .ok (.ireturn, 1) := by decide +kernel
theorem dX10_place_128 : decode cX10_place 128 = .ok (.aload_n 0, 1) := by decide +kernel
theorem dX10_place_129 : decode cX10_place 129 = .ok (.getfield 30, 3) := by decide +kernel
theorem dX10_place_132 : decode cX10_place 132 = .ok (.getfield 196, 3) := by decide +kernel
theorem dX10_place_135 : decode cX10_place 135 = .ok (.getfield 200, 3) := by decide +kernel
theorem dX10_place_138 : decode cX10_place 138 = .ok (.ifCond .ne 20, 3) := by decide +kernel
theorem dX10_place_141 : decode cX10_place 141 = .ok (.aload 4, 2) := by decide +kernel
theorem dX10_place_143 : decode cX10_place 143 = .ok (.iload 5, 2) := by decide +kernel
theorem dX10_place_145 : decode cX10_place 145 = .ok (.iload 6, 2) := by decide +kernel
theorem dX10_place_147 : decode cX10_place 147 = .ok (.invokevirtual 153, 3) := by decide +kernel
theorem dX10_place_150 : decode cX10_place 150 = .ok (.iconst (-1), 1) := by decide +kernel
theorem dX10_place_151 : decode cX10_place 151 = .ok (.if_icmp .eq 7, 3) := by decide +kernel
theorem dX10_place_154 : decode cX10_place 154 = .ok (.iconst 1, 1) := by decide +kernel
theorem dX10_place_155 : decode cX10_place 155 = .ok (.goto 4, 3) := by decide +kernel
theorem dX10_place_158 : decode cX10_place 158 = .ok (.iconst 0, 1) := by decide +kernel
theorem dX10_place_159 : decode cX10_place 159 = .ok (.ireturn, 1) := by decide +kernel
theorem dX10_place_160 : decode cX10_place 160 = .ok (.iconst (-1), 1) := by decide +kernel
theorem dX10_place_161 : decode cX10_place 161 = .ok (.ireturn, 1) := by decide +kernel
theorem dX10_read_0 : decode cX10_read 0 = .ok (.aload_n 0, 1) := by decide +kernel
theorem dX10_read_1 : decode cX10_read 1 = .ok (.iload_n 1, 1) := by decide +kernel
theorem dX10_read_2 : decode cX10_read 2 = .ok (.invokevirtual 173, 3) := by decide +kernel
theorem dX10_read_5 : decode cX10_read 5 = .ok (.ifCond .eq 21, 3) := by decide +kernel
theorem dX10_read_8 : decode cX10_read 8 = .ok (.aload_n 0, 1) := by decide +kernel
theorem dX10_read_9 : decode cX10_read 9 = .ok (.getfield 30, 3) := by decide +kernel
theorem dX10_read_12 : decode cX10_read 12 = .ok (.aload_n 0, 1) := by decide +kernel
theorem dX10_read_13 : decode cX10_read 13 = .ok (.getfield 10, 3) := by decide +kernel
theorem dX10_read_16 : decode cX10_read 16 = .ok (.getfield 102, 3) := by decide +kernel
theorem dX10_read_19 : decode cX10_read 19 = .ok (.iload_n 1, 1) := by decide +kernel
theorem dX10_read_20 : decode cX10_read 20 = .ok (.invokevirtual 256, 3) := by decide +kernel
theorem dX10_read_23 : decode cX10_read 23 = .ok (.goto 4, 3) := by decide +kernel
theorem dX10_read_26 : decode cX10_read 26 = .ok (.iconst 0, 1) := by decide +kernel
theorem dX10_read_27 : decode cX10_read 27 = .ok (.ireturn, 1) := by decide +kernel
theorem dX10_test_0 : decode cX10_test 0 = .ok (.aload_n 0, 1) := by decide +kernel
theorem dX10_test_1 : decode cX10_test 1 = .ok (.getfield 30, 3) := by decide +kernel
theorem dX10_test_4 : decode cX10_test 4 = .ok (.aload_n 0, 1) := by decide +kernel
theorem dX10_test_5 : decode cX10_test 5 = .ok (.getfield 10, 3) := by decide +kernel
theorem dX10_test_8 : decode cX10_test 8 = .ok (.getfield 102, 3) := by decide +kernel
theorem dX10_test_11 : decode cX10_test 11 = .ok (.getfield 106, 3) := by decide +kernel
theorem dX10_test_14 : decode cX10_test 14 = .ok (.iload_n 1, 1) := by decide +kernel
theorem dX10_test_15 : decode cX10_test 15 = .ok (.ifCond .eq 7, 3) := by decide +kernel
theorem dX10_test_18 : decode cX10_test 18 = .ok (.iconst 1, 1) := by decide +kernel
theorem dX10_test_19 : decode cX10_test 19 = .ok (.goto 4, 3) := by decide +kernel
theorem dX10_test_22 : decode cX10_test 22 = .ok (.iconst 0, 1) := by decide +kernel
theorem dX10_test_23 : decode cX10_test 23 = .ok (.invokevirtual 216, 3) := by decide +kernel
theorem dX10_test_26 : decode cX10_test 26 = .ok (.ireturn, 1) := by decide +kernel
theorem dX10_view_0 : decode cX10_view 0 = .ok (.iload_n 1, 1) := by decide +kernel
theorem dX10_view_1 : decode cX10_view 1 = .ok (.ifCond .ne 23, 3) := by decide +kernel
theorem dX10_view_4 : decode cX10_view 4 = .ok (.aload_n 0, 1) := by decide +kernel
theorem dX10_view_5 : decode cX10_view 5 = .ok (.getfield 58, 3) := by decide +kernel
theorem dX10_view_8 : decode cX10_view 8 = .ok (.aload_n 0, 1) := by decide +kernel
theorem dX10_view_9 : decode cX10_view 9 = .ok (.getfield 10, 3) := by decide +kernel
theorem dX10_view_12 : decode cX10_view 12 = .ok (.getfield 102, 3) := by decide +kernel
theorem dX10_view_15 : decode cX10_view 15 = .ok (.getfield 106, 3) := by decide +kernel
theorem dX10_view_18 : decode cX10_view 18 = .ok (.invokevirtual 260, 3) := by decide +kernel
theorem dX10_view_21 : decode cX10_view 21 = .ok (.goto 17, 3) := by decide +kernel
theorem dX10_view_24 : decode cX10_view 24 = .ok (.iload_n 1, 1) := by decide +kernel
theorem dX10_view_25 : decode cX10_view 25 = .ok (.iconst 1, 1) := by decide +kernel
theorem dX10_view_26 : decode cX10_view 26 = .ok (.if_icmp .ne 10, 3) := by decide +kernel
theorem dX10_view_29 : decode cX10_view 29 = .ok (.aload_n 0, 1) := by decide +kernel
theorem dX10_view_30 : decode cX10_view 30 = .ok (.invokevirtual 263, 3) := by decide +kernel
theorem dX10_view_33 : decode cX10_view 33 = .ok (.goto 5, 3) := by decide +kernel
theorem dX10_view_36 : decode cX10_view 36 = .ok (.iconst (-1), 1) := by decide +kernel
theorem dX10_view_37 : decode cX10_view 37 = .ok (.ireturn, 1) := by decide +kernel
theorem dX10_view_38 : decode cX10_view 38 = .ok (.iload_n 2, 1) := by decide +kernel
theorem dX10_view_39 : decode cX10_view 39 = .ok (.iconst (-1), 1) := by decide +kernel
theorem dX10_view_40 : decode cX10_view 40 = .ok (.if_icmp .ne 11, 3) := by decide +kernel
theorem dX10_view_43 : decode cX10_view 43 = .ok (.aload_n 0, 1) := by decide +kernel
theorem dX10_view_44 : decode cX10_view 44 = .ok (.getfield 58, 3) := by decide +kernel
theorem dX10_view_47 : decode cX10_view 47 = .ok (.getfield 266, 3) := by decide +kernel
theorem dX10_view_50 : decode cX10_view 50 = .ok (.ireturn, 1) := by decide +kernel
theorem dX10_view_51 : decode cX10_view 51 = .ok (.iload_n 2, 1) := by decide +kernel
theorem dX10_view_52 : decode cX10_view 52 = .ok (.ifCond .lt 14, 3) := by decide +kernel
theorem dX10_view_55 : decode cX10_view 55 = .ok (.iload_n 2, 1) := by decide +kernel
theorem dX10_view_56 : decode cX10_view 56 = .ok (.aload_n 0, 1) := by decide +kernel
theorem dX10_view_57 : decode cX10_view 57 = .ok (.getfield 58, 3) := by decide +kernel
theorem dX10_view_60 : decode cX10_view 60 = .ok (.getfield 266, 3) := by decide +kernel
theorem dX10_view_63 : decode cX10_view 63 = .ok (.if_icmp .lt 7, 3) := by decide +kernel
theorem dX10_view_66 : decode cX10_view 66 = .ok (.iconst (-1), 1) := by decide +kernel
theorem dX10_view_67 : decode cX10_view 67 = .ok (.goto 12, 3) := by decide +kernel
theorem dX10_view_70 : decode cX10_view 70 = .ok (.aload_n 0, 1) := by decide +kernel
theorem dX10_view_71 : decode cX10_view 71 = .ok (.getfield 58, 3) := by decide +kernel
theorem dX10_view_74 : decode cX10_view 74 = .ok (.getfield 267, 3) := by decide +kernel
theorem dX10_view_77 : decode cX10_view 77 = .ok (.iload_n 2, 1) := by decide +kernel
theorem dX10_view_78 : decode cX10_view 78 = .ok (.baload, 1) := by decide +kernel
theorem dX10_view_79 : decode cX10_view 79 = .ok (.ireturn, 1) := by decide +kernel
theorem dX10_agree_0 : decode cX10_agree 0 = .ok (.aload_n 0, 1) := by decide +kernel
theorem dX10_agree_1 : decode cX10_agree 1 = .ok (.invokevirtual 263, 3) := by decide +kernel
theorem dX10_agree_4 : decode cX10_agree 4 = .ok (.aload_n 0, 1) := by decide +kernel
theorem dX10_agree_5 : decode cX10_agree 5 = .ok (.getfield 10, 3) := by decide +kernel
theorem dX10_agree_8 : decode cX10_agree 8 = .ok (.getfield 65, 3) := by decide +kernel
theorem dX10_agree_11 : decode cX10_agree 11 = .ok (.getfield 79, 3) := by decide +kernel
theorem dX10_agree_14 : decode cX10_agree 14 = .ok (.aload_n 0, 1) := by decide +kernel
theorem dX10_agree_15 : decode cX10_agree 15 = .ok (.getfield 58, 3) := by decide +kernel
theorem dX10_agree_18 : decode cX10_agree 18 = .ok (.getfield 266, 3) := by decide +kernel
theorem dX10_agree_21 : decode cX10_agree 21 = .ok (.invokestatic 271, 3) := by decide +kernel
theorem dX10_agree_24 : decode cX10_agree 24 = .ok (.istore_n 1, 1) := by decide +kernel
theorem dX10_agree_25 : decode cX10_agree 25 = .ok (.iconst 0, 1) := by decide +kernel
theorem dX10_agree_26 : decode cX10_agree 26 = .ok (.istore_n 2, 1) := by decide +kernel
theorem dX10_agree_27 : decode cX10_agree 27 = .ok (.iload_n 2, 1) := by decide +kernel
theorem dX10_agree_28 : decode cX10_agree 28 = .ok (.iload_n 1, 1) := by decide +kernel
theorem dX10_agree_29 : decode cX10_agree 29 = .ok (.if_icmp .ge 33, 3) := by decide +kernel
theorem dX10_agree_32 : decode cX10_agree 32 = .ok (.aload_n 0, 1) := by decide +kernel
theorem dX10_agree_33 : decode cX10_agree 33 = .ok (.getfield 10, 3) := by decide +kernel
theorem dX10_agree_36 : decode cX10_agree 36 = .ok (.getfield 65, 3) := by decide +kernel
theorem dX10_agree_39 : decode cX10_agree 39 = .ok (.getfield 276, 3) := by decide +kernel
theorem dX10_agree_42 : decode cX10_agree 42 = .ok (.iload_n 2, 1) := by decide +kernel
theorem dX10_agree_43 : decode cX10_agree 43 = .ok (.baload, 1) := by decide +kernel
theorem dX10_agree_44 : decode cX10_agree 44 = .ok (.aload_n 0, 1) := by decide +kernel
theorem dX10_agree_45 : decode cX10_agree 45 = .ok (.getfield 58, 3) := by decide +kernel
theorem dX10_agree_48 : decode cX10_agree 48 = .ok (.getfield 267, 3) := by decide +kernel
theorem dX10_agree_51 : decode cX10_agree 51 = .ok (.iload_n 2, 1) := by decide +kernel
theorem dX10_agree_52 : decode cX10_agree 52 = .ok (.baload, 1) := by decide +kernel
theorem dX10_agree_53 : decode cX10_agree 53 = .ok (.if_icmp .ne 9, 3) := by decide +kernel
theorem dX10_agree_56 : decode cX10_agree 56 = .ok (.iinc 2 1, 3) := by decide +kernel
theorem dX10_agree_59 : decode cX10_agree 59 = .ok (.goto (-32), 3) := by decide +kernel
theorem dX10_agree_62 : decode cX10_agree 62 = .ok (.iload_n 2, 1) := by decide +kernel
theorem dX10_agree_63 : decode cX10_agree 63 = .ok (.aload_n 0, 1) := by decide +kernel
theorem dX10_agree_64 : decode cX10_agree 64 = .ok (.getfield 10, 3) := by decide +kernel
theorem dX10_agree_67 : decode cX10_agree 67 = .ok (.getfield 65, 3) := by decide +kernel
theorem dX10_agree_70 : decode cX10_agree 70 = .ok (.getfield 79, 3) := by decide +kernel
theorem dX10_agree_73 : decode cX10_agree 73 = .ok (.if_icmp .ne 18, 3) := by decide +kernel
theorem dX10_agree_76 : decode cX10_agree 76 = .ok (.iload_n 2, 1) := by decide +kernel
theorem dX10_agree_77 : decode cX10_agree 77 = .ok (.aload_n 0, 1) := by decide +kernel
theorem dX10_agree_78 : decode cX10_agree 78 = .ok (.getfield 58, 3) := by decide +kernel
theorem dX10_agree_81 : decode cX10_agree 81 = .ok (.getfield 266, 3) := by decide +kernel
theorem dX10_agree_84 : decode cX10_agree 84 = .ok (.if_icmp .ne 7, 3) := by decide +kernel
theorem dX10_agree_87 : decode cX10_agree 87 = .ok (.iconst 1, 1) := by decide +kernel
theorem dX10_agree_88 : decode cX10_agree 88 = .ok (.goto 4, 3) := by decide +kernel
theorem dX10_agree_91 : decode cX10_agree 91 = .ok (.iconst 0, 1) := by decide +kernel
theorem dX10_agree_92 : decode cX10_agree 92 = .ok (.istore_n 3, 1) := by decide +kernel
theorem dX10_agree_93 : decode cX10_agree 93 = .ok (.aload_n 0, 1) := by decide +kernel
theorem dX10_agree_94 : decode cX10_agree 94 = .ok (.getfield 10, 3) := by decide +kernel
theorem dX10_agree_97 : decode cX10_agree 97 = .ok (.getfield 65, 3) := by decide +kernel
theorem dX10_agree_100 : decode cX10_agree 100 = .ok (.iconst 0, 1) := by decide +kernel
theorem dX10_agree_101 : decode cX10_agree 101 = .ok (.putfield 79, 3) := by decide +kernel
theorem dX10_agree_104 : decode cX10_agree 104 = .ok (.iload_n 3, 1) := by decide +kernel
theorem dX10_agree_105 : decode cX10_agree 105 = .ok (.ifCond .eq 7, 3) := by decide +kernel
theorem dX10_agree_108 : decode cX10_agree 108 = .ok (.iconst (-1), 1) := by decide +kernel
theorem dX10_agree_109 : decode cX10_agree 109 = .ok (.goto 4, 3) := by decide +kernel
theorem dX10_agree_112 : decode cX10_agree 112 = .ok (.iload_n 2, 1) := by decide +kernel
theorem dX10_agree_113 : decode cX10_agree 113 = .ok (.ireturn, 1) := by decide +kernel
theorem dX10_most_0 : decode cX10_most 0 = .ok (.aload_n 0, 1) := by decide +kernel
theorem dX10_most_1 : decode cX10_most 1 = .ok (.getfield 10, 3) := by decide +kernel
theorem dX10_most_4 : decode cX10_most 4 = .ok (.getfield 102, 3) := by decide +kernel
theorem dX10_most_7 : decode cX10_most 7 = .ok (.getfield 106, 3) := by decide +kernel
theorem dX10_most_10 : decode cX10_most 10 = .ok (.getfield 132, 3) := by decide +kernel
theorem dX10_most_13 : decode cX10_most 13 = .ok (.astore_n 3, 1) := by decide +kernel
theorem dX10_most_14 : decode cX10_most 14 = .ok (.sipush 1024, 3) := by decide +kernel
theorem dX10_most_17 : decode cX10_most 17 = .ok (.istore 4, 2) := by decide +kernel
theorem dX10_most_19 : decode cX10_most 19 = .ok (.iload 4, 2) := by decide +kernel
theorem dX10_most_21 : decode cX10_most 21 = .ok (.bipush 16, 2) := by decide +kernel
theorem dX10_most_23 : decode cX10_most 23 = .ok (.if_icmp .lt 69, 3) := by decide +kernel
theorem dX10_most_26 : decode cX10_most 26 = .ok (.iconst 0, 1) := by decide +kernel
theorem dX10_most_27 : decode cX10_most 27 = .ok (.istore 5, 2) := by decide +kernel
theorem dX10_most_29 : decode cX10_most 29 = .ok (.iload 5, 2) := by decide +kernel
theorem dX10_most_31 : decode cX10_most 31 = .ok (.iconst 3, 1) := by decide +kernel
theorem dX10_most_32 : decode cX10_most 32 = .ok (.if_icmp .gt 51, 3) := by decide +kernel
theorem dX10_most_35 : decode cX10_most 35 = .ok (.aload_n 0, 1) := by decide +kernel
theorem dX10_most_36 : decode cX10_most 36 = .ok (.getfield 37, 3) := by decide +kernel
theorem dX10_most_39 : decode cX10_most 39 = .ok (.aload_n 3, 1) := by decide +kernel
theorem dX10_most_40 : decode cX10_most 40 = .ok (.iload 4, 2) := by decide +kernel
theorem dX10_most_42 : decode cX10_most 42 = .ok (.iconst 1, 1) := by decide +kernel
theorem dX10_most_43 : decode cX10_most 43 = .ok (.iload 5, 2) := by decide +kernel
theorem dX10_most_45 : decode cX10_most 45 = .ok (.ishl, 1) := by decide +kernel
theorem dX10_most_46 : decode cX10_most 46 = .ok (.invokevirtual 220, 3) := by decide +kernel
theorem dX10_most_49 : decode cX10_most 49 = .ok (.ifCond .eq 28, 3) := by decide +kernel
theorem dX10_most_52 : decode cX10_most 52 = .ok (.aload_n 0, 1) := by decide +kernel
theorem dX10_most_53 : decode cX10_most 53 = .ok (.getfield 37, 3) := by decide +kernel
theorem dX10_most_56 : decode cX10_most 56 = .ok (.getfield 277, 3) := by decide +kernel
theorem dX10_most_59 : decode cX10_most 59 = .ok (.iload_n 1, 1) := by decide +kernel
theorem dX10_most_60 : decode cX10_most 60 = .ok (.if_icmp .gt 17, 3) := by decide +kernel
theorem dX10_most_63 : decode cX10_most 63 = .ok (.aload_n 0, 1) := by decide +kernel
theorem dX10_most_64 : decode cX10_most 64 = .ok (.getfield 37, 3) := by decide +kernel
theorem dX10_most_67 : decode cX10_most 67 = .ok (.getfield 280, 3) := by decide +kernel
theorem dX10_most_70 : decode cX10_most 70 = .ok (.iload_n 2, 1) := by decide +kernel
theorem dX10_most_71 : decode cX10_most 71 = .ok (.if_icmp .gt 6, 3) := by decide +kernel
theorem dX10_most_74 : decode cX10_most 74 = .ok (.iload 4, 2) := by decide +kernel
theorem dX10_most_76 : decode cX10_most 76 = .ok (.ireturn, 1) := by decide +kernel
theorem dX10_most_77 : decode cX10_most 77 = .ok (.iinc 5 1, 3) := by decide +kernel
theorem dX10_most_80 : decode cX10_most 80 = .ok (.goto (-51), 3) := by decide +kernel
theorem dX10_most_83 : decode cX10_most 83 = .ok (.iload 4, 2) := by decide +kernel
theorem dX10_most_85 : decode cX10_most 85 = .ok (.iconst 2, 1) := by decide +kernel
theorem dX10_most_86 : decode cX10_most 86 = .ok (.idiv, 1) := by decide +kernel
theorem dX10_most_87 : decode cX10_most 87 = .ok (.istore 4, 2) := by decide +kernel
theorem dX10_most_89 : decode cX10_most 89 = .ok (.goto (-70), 3) := by decide +kernel
theorem dX10_most_92 : decode cX10_most 92 = .ok (.iconst (-1), 1) := by decide +kernel
theorem dX10_most_93 : decode cX10_most 93 = .ok (.ireturn, 1) := by decide +kernel
theorem dX10_fewest_0 : decode cX10_fewest 0 = .ok (.aload_n 0, 1) := by decide +kernel
theorem dX10_fewest_1 : decode cX10_fewest 1 = .ok (.getfield 30, 3) := by decide +kernel
theorem dX10_fewest_4 : decode cX10_fewest 4 = .ok (.getfield 196, 3) := by decide +kernel
theorem dX10_fewest_7 : decode cX10_fewest 7 = .ok (.getfield 283, 3) := by decide +kernel
theorem dX10_fewest_10 : decode cX10_fewest 10 = .ok (.istore_n 1, 1) := by decide +kernel
theorem dX10_fewest_11 : decode cX10_fewest 11 = .ok (.iload_n 1, 1) := by decide +kernel
theorem dX10_fewest_12 : decode cX10_fewest 12 = .ok (.iconst 4, 1) := by decide +kernel
theorem dX10_fewest_13 : decode cX10_fewest 13 = .ok (.if_icmp .gt 7, 3) := by decide +kernel
theorem dX10_fewest_16 : decode cX10_fewest 16 = .ok (.iload_n 1, 1) := by decide +kernel
theorem dX10_fewest_17 : decode cX10_fewest 17 = .ok (.goto 4, 3) := by decide +kernel
theorem dX10_fewest_20 : decode cX10_fewest 20 = .ok (.iconst (-1), 1) := by decide +kernel
theorem dX10_fewest_21 : decode cX10_fewest 21 = .ok (.ireturn, 1) := by decide +kernel
theorem dX10_image_0 : decode cX10_image 0 = .ok (.iload_n 1, 1) := by decide +kernel
theorem dX10_image_1 : decode cX10_image 1 = .ok (.ifCond .lt 8, 3) := by decide +kernel
theorem dX10_image_4 : decode cX10_image 4 = .ok (.iload_n 1, 1) := by decide +kernel
theorem dX10_image_5 : decode cX10_image 5 = .ok (.iconst 3, 1) := by decide +kernel
theorem dX10_image_6 : decode cX10_image 6 = .ok (.if_icmp .lt 5, 3) := by decide +kernel
theorem dX10_image_9 : decode cX10_image 9 = .ok (.iconst 0, 1) := by decide +kernel
theorem dX10_image_10 : decode cX10_image 10 = .ok (.ireturn, 1) := by decide +kernel
theorem dX10_image_11 : decode cX10_image 11 = .ok (.aload_n 0, 1) := by decide +kernel
theorem dX10_image_12 : decode cX10_image 12 = .ok (.getfield 16, 3) := by decide +kernel
theorem dX10_image_15 : decode cX10_image 15 = .ok (.iload_n 1, 1) := by decide +kernel
theorem dX10_image_16 : decode cX10_image 16 = .ok (.aaload, 1) := by decide +kernel
theorem dX10_image_17 : decode cX10_image 17 = .ok (.ifnonnull 16, 3) := by decide +kernel
theorem dX10_image_20 : decode cX10_image 20 = .ok (.aload_n 0, 1) := by decide +kernel
theorem dX10_image_21 : decode cX10_image 21 = .ok (.getfield 16, 3) := by decide +kernel
theorem dX10_image_24 : decode cX10_image 24 = .ok (.iload_n 1, 1) := by decide +kernel
theorem dX10_image_25 : decode cX10_image 25 = .ok (.new 7, 3) := by decide +kernel
theorem dX10_image_28 : decode cX10_image 28 = .ok (.dup, 1) := by decide +kernel
theorem dX10_image_29 : decode cX10_image 29 = .ok (.invokespecial 9, 3) := by decide +kernel
theorem dX10_image_32 : decode cX10_image 32 = .ok (.aastore, 1) := by decide +kernel
theorem dX10_image_33 : decode cX10_image 33 = .ok (.aload_n 0, 1) := by decide +kernel
theorem dX10_image_34 : decode cX10_image 34 = .ok (.getfield 16, 3) := by decide +kernel
theorem dX10_image_37 : decode cX10_image 37 = .ok (.iload_n 1, 1) := by decide +kernel
theorem dX10_image_38 : decode cX10_image 38 = .ok (.aaload, 1) := by decide +kernel
theorem dX10_image_39 : decode cX10_image 39 = .ok (.aload_n 0, 1) := by decide +kernel
theorem dX10_image_40 : decode cX10_image 40 = .ok (.getfield 10, 3) := by decide +kernel
theorem dX10_image_43 : decode cX10_image 43 = .ok (.invokevirtual 286, 3) := by decide +kernel
theorem dX10_image_46 : decode cX10_image 46 = .ok (.iconst 1, 1) := by decide +kernel
theorem dX10_image_47 : decode cX10_image 47 = .ok (.ireturn, 1) := by decide +kernel
theorem dX10_again_0 : decode cX10_again 0 = .ok (.iload_n 1, 1) := by decide +kernel
theorem dX10_again_1 : decode cX10_again 1 = .ok (.ifCond .lt 17, 3) := by decide +kernel
theorem dX10_again_4 : decode cX10_again 4 = .ok (.iload_n 1, 1) := by decide +kernel
theorem dX10_again_5 : decode cX10_again 5 = .ok (.iconst 3, 1) := by decide +kernel
theorem dX10_again_6 : decode cX10_again 6 = .ok (.if_icmp .ge 12, 3) := by decide +kernel
theorem dX10_again_9 : decode cX10_again 9 = .ok (.aload_n 0, 1) := by decide +kernel
theorem dX10_again_10 : decode cX10_again 10 = .ok (.getfield 16, 3) := by decide +kernel
theorem dX10_again_13 : decode cX10_again 13 = .ok (.iload_n 1, 1) := by decide +kernel
theorem dX10_again_14 : decode cX10_again 14 = .ok (.aaload, 1) := by decide +kernel
theorem dX10_again_15 : decode cX10_again 15 = .ok (.ifnonnull 5, 3) := by decide +kernel
theorem dX10_again_18 : decode cX10_again 18 = .ok (.iconst 0, 1) := by decide +kernel
theorem dX10_again_19 : decode cX10_again 19 = .ok (.ireturn, 1) := by decide +kernel
theorem dX10_again_20 : decode cX10_again 20 = .ok (.aload_n 0, 1) := by decide +kernel
theorem dX10_again_21 : decode cX10_again 21 = .ok (.getfield 10, 3) := by decide +kernel
theorem dX10_again_24 : decode cX10_again 24 = .ok (.aload_n 0, 1) := by decide +kernel
theorem dX10_again_25 : decode cX10_again 25 = .ok (.getfield 16, 3) := by decide +kernel
theorem dX10_again_28 : decode cX10_again 28 = .ok (.iload_n 1, 1) := by decide +kernel
theorem dX10_again_29 : decode cX10_again 29 = .ok (.aaload, 1) := by decide +kernel
theorem dX10_again_30 : decode cX10_again 30 = .ok (.invokevirtual 286, 3) := by decide +kernel
theorem dX10_again_33 : decode cX10_again 33 = .ok (.aload_n 0, 1) := by decide +kernel
theorem dX10_again_34 : decode cX10_again 34 = .ok (.getfield 23, 3) := by decide +kernel
theorem dX10_again_37 : decode cX10_again 37 = .ok (.invokevirtual 118, 3) := by decide +kernel
theorem dX10_again_40 : decode cX10_again 40 = .ok (.aload_n 0, 1) := by decide +kernel
theorem dX10_again_41 : decode cX10_again 41 = .ok (.invokevirtual 62, 3) := by decide +kernel
theorem dX10_again_44 : decode cX10_again 44 = .ok (.iconst 1, 1) := by decide +kernel
theorem dX10_again_45 : decode cX10_again 45 = .ok (.ireturn, 1) := by decide +kernel
theorem dX10_settle_0 : decode cX10_settle 0 = .ok (.aload_n 0, 1) := by decide +kernel
theorem dX10_settle_1 : decode cX10_settle 1 = .ok (.getfield 10, 3) := by decide +kernel
theorem dX10_settle_4 : decode cX10_settle 4 = .ok (.getfield 102, 3) := by decide +kernel
theorem dX10_settle_7 : decode cX10_settle 7 = .ok (.getfield 106, 3) := by decide +kernel
theorem dX10_settle_10 : decode cX10_settle 10 = .ok (.astore_n 1, 1) := by decide +kernel
theorem dX10_settle_11 : decode cX10_settle 11 = .ok (.aload_n 0, 1) := by decide +kernel
theorem dX10_settle_12 : decode cX10_settle 12 = .ok (.getfield 30, 3) := by decide +kernel
theorem dX10_settle_15 : decode cX10_settle 15 = .ok (.aload_n 1, 1) := by decide +kernel
theorem dX10_settle_16 : decode cX10_settle 16 = .ok (.aload_n 0, 1) := by decide +kernel
theorem dX10_settle_17 : decode cX10_settle 17 = .ok (.getfield 37, 3) := by decide +kernel
theorem dX10_settle_20 : decode cX10_settle 20 = .ok (.aload_n 1, 1) := by decide +kernel
theorem dX10_settle_21 : decode cX10_settle 21 = .ok (.getfield 132, 3) := by decide +kernel
theorem dX10_settle_24 : decode cX10_settle 24 = .ok (.invokevirtual 289, 3) := by decide +kernel
theorem dX10_settle_27 : decode cX10_settle 27 = .ok (.invokevirtual 293, 3) := by decide +kernel
theorem dX10_settle_30 : decode cX10_settle 30 = .ok (.return_, 1) := by decide +kernel
theorem dX10_tellMade_0 : decode cX10_tellMade 0 = .ok (.aload_n 0, 1) := by decide +kernel
theorem dX10_tellMade_1 : decode cX10_tellMade 1 = .ok (.getfield 10, 3) := by decide +kernel
theorem dX10_tellMade_4 : decode cX10_tellMade 4 = .ok (.getfield 102, 3) := by decide +kernel
theorem dX10_tellMade_7 : decode cX10_tellMade 7 = .ok (.getfield 106, 3) := by decide +kernel
theorem dX10_tellMade_10 : decode cX10_tellMade 10 = .ok (.getfield 132, 3) := by decide +kernel
theorem dX10_tellMade_13 : decode cX10_tellMade 13 = .ok (.astore_n 1, 1) := by decide +kernel
theorem dX10_tellMade_14 : decode cX10_tellMade 14 = .ok (.aload_n 0, 1) := by decide +kernel
theorem dX10_tellMade_15 : decode cX10_tellMade 15 = .ok (.getfield 37, 3) := by decide +kernel
theorem dX10_tellMade_18 : decode cX10_tellMade 18 = .ok (.aload_n 1, 1) := by decide +kernel
theorem dX10_tellMade_19 : decode cX10_tellMade 19 = .ok (.aload_n 1, 1) := by decide +kernel
theorem dX10_tellMade_20 : decode cX10_tellMade 20 = .ok (.iconst 0, 1) := by decide +kernel
theorem dX10_tellMade_21 : decode cX10_tellMade 21 = .ok (.iaload, 1) := by decide +kernel
theorem dX10_tellMade_22 : decode cX10_tellMade 22 = .ok (.aload_n 0, 1) := by decide +kernel
theorem dX10_tellMade_23 : decode cX10_tellMade 23 = .ok (.getfield 30, 3) := by decide +kernel
theorem dX10_tellMade_26 : decode cX10_tellMade 26 = .ok (.getfield 121, 3) := by decide +kernel
theorem dX10_tellMade_29 : decode cX10_tellMade 29 = .ok (.invokevirtual 220, 3) := by decide +kernel
theorem dX10_tellMade_32 : decode cX10_tellMade 32 = .ok (.pop, 1) := by decide +kernel
theorem dX10_tellMade_33 : decode cX10_tellMade 33 = .ok (.aload_n 0, 1) := by decide +kernel
theorem dX10_tellMade_34 : decode cX10_tellMade 34 = .ok (.getfield 58, 3) := by decide +kernel
theorem dX10_tellMade_37 : decode cX10_tellMade 37 = .ok (.aload_n 0, 1) := by decide +kernel
theorem dX10_tellMade_38 : decode cX10_tellMade 38 = .ok (.getfield 37, 3) := by decide +kernel
theorem dX10_tellMade_41 : decode cX10_tellMade 41 = .ok (.aload_n 0, 1) := by decide +kernel
theorem dX10_tellMade_42 : decode cX10_tellMade 42 = .ok (.getfield 30, 3) := by decide +kernel
theorem dX10_tellMade_45 : decode cX10_tellMade 45 = .ok (.getfield 196, 3) := by decide +kernel
theorem dX10_tellMade_48 : decode cX10_tellMade 48 = .ok (.invokevirtual 297, 3) := by decide +kernel
theorem dX10_tellMade_51 : decode cX10_tellMade 51 = .ok (.return_, 1) := by decide +kernel
theorem dX10_accept_0 : decode cX10_accept 0 = .ok (.aload_n 0, 1) := by decide +kernel
theorem dX10_accept_1 : decode cX10_accept 1 = .ok (.getfield 10, 3) := by decide +kernel
theorem dX10_accept_4 : decode cX10_accept 4 = .ok (.iconst 0, 1) := by decide +kernel
theorem dX10_accept_5 : decode cX10_accept 5 = .ok (.putfield 180, 3) := by decide +kernel
theorem dX10_accept_8 : decode cX10_accept 8 = .ok (.aload_n 0, 1) := by decide +kernel
theorem dX10_accept_9 : decode cX10_accept 9 = .ok (.getfield 10, 3) := by decide +kernel
theorem dX10_accept_12 : decode cX10_accept 12 = .ok (.iconst 0, 1) := by decide +kernel
theorem dX10_accept_13 : decode cX10_accept 13 = .ok (.putfield 183, 3) := by decide +kernel
theorem dX10_accept_16 : decode cX10_accept 16 = .ok (.aload_n 0, 1) := by decide +kernel
theorem dX10_accept_17 : decode cX10_accept 17 = .ok (.getfield 10, 3) := by decide +kernel
theorem dX10_accept_20 : decode cX10_accept 20 = .ok (.iconst 0, 1) := by decide +kernel
theorem dX10_accept_21 : decode cX10_accept 21 = .ok (.putfield 186, 3) := by decide +kernel
theorem dX10_accept_24 : decode cX10_accept 24 = .ok (.iconst 0, 1) := by decide +kernel
theorem dX10_accept_25 : decode cX10_accept 25 = .ok (.ireturn, 1) := by decide +kernel
theorem dX10_refuse_0 : decode cX10_refuse 0 = .ok (.aload_n 0, 1) := by decide +kernel
theorem dX10_refuse_1 : decode cX10_refuse 1 = .ok (.invokevirtual 146, 3) := by decide +kernel
theorem dX10_refuse_4 : decode cX10_refuse 4 = .ok (.pop, 1) := by decide +kernel
theorem dX10_refuse_5 : decode cX10_refuse 5 = .ok (.aload_n 0, 1) := by decide +kernel
theorem dX10_refuse_6 : decode cX10_refuse 6 = .ok (.getfield 10, 3) := by decide +kernel
theorem dX10_refuse_9 : decode cX10_refuse 9 = .ok (.iload_n 1, 1) := by decide +kernel
theorem dX10_refuse_10 : decode cX10_refuse 10 = .ok (.putfield 180, 3) := by decide +kernel
theorem dX10_refuse_13 : decode cX10_refuse 13 = .ok (.iload_n 1, 1) := by decide +kernel
theorem dX10_refuse_14 : decode cX10_refuse 14 = .ok (.ireturn, 1) := by decide +kernel
theorem dX10_refuseUnfit_0 : decode cX10_refuseUnfit 0 = .ok (.aload_n 0, 1) := by decide +kernel
theorem dX10_refuseUnfit_1 : decode cX10_refuseUnfit 1 = .ok (.invokevirtual 146, 3) := by decide +kernel
theorem dX10_refuseUnfit_4 : decode cX10_refuseUnfit 4 = .ok (.pop, 1) := by decide +kernel
theorem dX10_refuseUnfit_5 : decode cX10_refuseUnfit 5 = .ok (.aload_n 0, 1) := by decide +kernel
theorem dX10_refuseUnfit_6 : decode cX10_refuseUnfit 6 = .ok (.getfield 10, 3) := by decide +kernel
theorem dX10_refuseUnfit_9 : decode cX10_refuseUnfit 9 = .ok (.iconst 4, 1) := by decide +kernel
theorem dX10_refuseUnfit_10 : decode cX10_refuseUnfit 10 = .ok (.putfield 180, 3) := by decide +kernel
theorem dX10_refuseUnfit_13 : decode cX10_refuseUnfit 13 = .ok (.iload_n 1, 1) := by decide +kernel
theorem dX10_refuseUnfit_14 : decode cX10_refuseUnfit 14 = .ok (.bipush 6, 2) := by decide +kernel
theorem dX10_refuseUnfit_16 : decode cX10_refuseUnfit 16 = .ok (.if_icmp .ne 15, 3) := by decide +kernel
theorem dX10_refuseUnfit_19 : decode cX10_refuseUnfit 19 = .ok (.aload_n 0, 1) := by decide +kernel
theorem dX10_refuseUnfit_20 : decode cX10_refuseUnfit 20 = .ok (.getfield 10, 3) := by decide +kernel
theorem dX10_refuseUnfit_23 : decode cX10_refuseUnfit 23 = .ok (.bipush 6, 2) := by decide +kernel
theorem dX10_refuseUnfit_25 : decode cX10_refuseUnfit 25 = .ok (.putfield 183, 3) := by decide +kernel
theorem dX10_refuseUnfit_28 : decode cX10_refuseUnfit 28 = .ok (.goto 19, 3) := by decide +kernel
theorem dX10_refuseUnfit_31 : decode cX10_refuseUnfit 31 = .ok (.aload_n 0, 1) := by decide +kernel
theorem dX10_refuseUnfit_32 : decode cX10_refuseUnfit 32 = .ok (.getfield 10, 3) := by decide +kernel
theorem dX10_refuseUnfit_35 : decode cX10_refuseUnfit 35 = .ok (.iconst 5, 1) := by decide +kernel
theorem dX10_refuseUnfit_36 : decode cX10_refuseUnfit 36 = .ok (.putfield 183, 3) := by decide +kernel
theorem dX10_refuseUnfit_39 : decode cX10_refuseUnfit 39 = .ok (.aload_n 0, 1) := by decide +kernel
theorem dX10_refuseUnfit_40 : decode cX10_refuseUnfit 40 = .ok (.getfield 10, 3) := by decide +kernel
theorem dX10_refuseUnfit_43 : decode cX10_refuseUnfit 43 = .ok (.iload_n 1, 1) := by decide +kernel
theorem dX10_refuseUnfit_44 : decode cX10_refuseUnfit 44 = .ok (.putfield 186, 3) := by decide +kernel
theorem dX10_refuseUnfit_47 : decode cX10_refuseUnfit 47 = .ok (.iconst 4, 1) := by decide +kernel
theorem dX10_refuseUnfit_48 : decode cX10_refuseUnfit 48 = .ok (.ireturn, 1) := by decide +kernel
theorem dX10_unfit_0 : decode cX10_unfit 0 = .ok (.aload_n 0, 1) := by decide +kernel
theorem dX10_unfit_1 : decode cX10_unfit 1 = .ok (.getfield 37, 3) := by decide +kernel
theorem dX10_unfit_4 : decode cX10_unfit 4 = .ok (.aload_n 1, 1) := by decide +kernel
theorem dX10_unfit_5 : decode cX10_unfit 5 = .ok (.getfield 132, 3) := by decide +kernel
theorem dX10_unfit_8 : decode cX10_unfit 8 = .ok (.invokevirtual 289, 3) := by decide +kernel
theorem dX10_unfit_11 : decode cX10_unfit 11 = .ok (.istore_n 2, 1) := by decide +kernel
theorem dX10_unfit_12 : decode cX10_unfit 12 = .ok (.iload_n 2, 1) := by decide +kernel
theorem dX10_unfit_13 : decode cX10_unfit 13 = .ok (.invokestatic 300, 3) := by decide +kernel
theorem dX10_unfit_16 : decode cX10_unfit 16 = .ok (.istore_n 3, 1) := by decide +kernel
theorem dX10_unfit_17 : decode cX10_unfit 17 = .ok (.aload_n 1, 1) := by decide +kernel
theorem dX10_unfit_18 : decode cX10_unfit 18 = .ok (.getfield 132, 3) := by decide +kernel
theorem dX10_unfit_21 : decode cX10_unfit 21 = .ok (.iconst 0, 1) := by decide +kernel
theorem dX10_unfit_22 : decode cX10_unfit 22 = .ok (.iaload, 1) := by decide +kernel
theorem dX10_unfit_23 : decode cX10_unfit 23 = .ok (.iload_n 3, 1) := by decide +kernel
theorem dX10_unfit_24 : decode cX10_unfit 24 = .ok (.ishr, 1) := by decide +kernel
theorem dX10_unfit_25 : decode cX10_unfit 25 = .ok (.istore 4, 2) := by decide +kernel
theorem dX10_unfit_27 : decode cX10_unfit 27 = .ok (.iload 4, 2) := by decide +kernel
theorem dX10_unfit_29 : decode cX10_unfit 29 = .ok (.bipush 8, 2) := by decide +kernel
theorem dX10_unfit_31 : decode cX10_unfit 31 = .ok (.if_icmp .ge 6, 3) := by decide +kernel
theorem dX10_unfit_34 : decode cX10_unfit 34 = .ok (.bipush 7, 2) := by decide +kernel
theorem dX10_unfit_36 : decode cX10_unfit 36 = .ok (.ireturn, 1) := by decide +kernel
theorem dX10_unfit_37 : decode cX10_unfit 37 = .ok (.iload 4, 2) := by decide +kernel
theorem dX10_unfit_39 : decode cX10_unfit 39 = .ok (.sipush 512, 3) := by decide +kernel
theorem dX10_unfit_42 : decode cX10_unfit 42 = .ok (.if_icmp .le 6, 3) := by decide +kernel
theorem dX10_unfit_45 : decode cX10_unfit 45 = .ok (.bipush 8, 2) := by decide +kernel
theorem dX10_unfit_47 : decode cX10_unfit 47 = .ok (.ireturn, 1) := by decide +kernel
theorem dX10_unfit_48 : decode cX10_unfit 48 = .ok (.aload_n 1, 1) := by decide +kernel
theorem dX10_unfit_49 : decode cX10_unfit 49 = .ok (.iload 4, 2) := by decide +kernel
theorem dX10_unfit_51 : decode cX10_unfit 51 = .ok (.aload_n 1, 1) := by decide +kernel
theorem dX10_unfit_52 : decode cX10_unfit 52 = .ok (.getfield 132, 3) := by decide +kernel
theorem dX10_unfit_55 : decode cX10_unfit 55 = .ok (.iconst 1, 1) := by decide +kernel
theorem dX10_unfit_56 : decode cX10_unfit 56 = .ok (.iaload, 1) := by decide +kernel
theorem dX10_unfit_57 : decode cX10_unfit 57 = .ok (.iload_n 3, 1) := by decide +kernel
theorem dX10_unfit_58 : decode cX10_unfit 58 = .ok (.ishl, 1) := by decide +kernel
theorem dX10_unfit_59 : decode cX10_unfit 59 = .ok (.invokevirtual 303, 3) := by decide +kernel
theorem dX10_unfit_62 : decode cX10_unfit 62 = .ok (.ifCond .eq 7, 3) := by decide +kernel
theorem dX10_unfit_65 : decode cX10_unfit 65 = .ok (.iconst 0, 1) := by decide +kernel
theorem dX10_unfit_66 : decode cX10_unfit 66 = .ok (.goto 5, 3) := by decide +kernel
theorem dX10_unfit_69 : decode cX10_unfit 69 = .ok (.bipush 6, 2) := by decide +kernel
theorem dX10_unfit_71 : decode cX10_unfit 71 = .ok (.ireturn, 1) := by decide +kernel
theorem dX10_isAddress_0 : decode cX10_isAddress 0 = .ok (.iload_n 1, 1) := by decide +kernel
theorem dX10_isAddress_1 : decode cX10_isAddress 1 = .ok (.ifCond .lt 26, 3) := by decide +kernel
theorem dX10_isAddress_4 : decode cX10_isAddress 4 = .ok (.iload_n 1, 1) := by decide +kernel
theorem dX10_isAddress_5 : decode cX10_isAddress 5 = .ok (.aload_n 0, 1) := by decide +kernel
theorem dX10_isAddress_6 : decode cX10_isAddress 6 = .ok (.getfield 10, 3) := by decide +kernel
theorem dX10_isAddress_9 : decode cX10_isAddress 9 = .ok (.getfield 102, 3) := by decide +kernel
theorem dX10_isAddress_12 : decode cX10_isAddress 12 = .ok (.getfield 106, 3) := by decide +kernel
theorem dX10_isAddress_15 : decode cX10_isAddress 15 = .ok (.getfield 132, 3) := by decide +kernel
theorem dX10_isAddress_18 : decode cX10_isAddress 18 = .ok (.iconst 0, 1) := by decide +kernel
theorem dX10_isAddress_19 : decode cX10_isAddress 19 = .ok (.iaload, 1) := by decide +kernel
theorem dX10_isAddress_20 : decode cX10_isAddress 20 = .ok (.if_icmp .ge 7, 3) := by decide +kernel
theorem dX10_isAddress_23 : decode cX10_isAddress 23 = .ok (.iconst 1, 1) := by decide +kernel
theorem dX10_isAddress_24 : decode cX10_isAddress 24 = .ok (.goto 4, 3) := by decide +kernel
theorem dX10_isAddress_27 : decode cX10_isAddress 27 = .ok (.iconst 0, 1) := by decide +kernel
theorem dX10_isAddress_28 : decode cX10_isAddress 28 = .ok (.ireturn, 1) := by decide +kernel
theorem dX10_isLayout_0 : decode cX10_isLayout 0 = .ok (.iload_n 0, 1) := by decide +kernel
theorem dX10_isLayout_1 : decode cX10_isLayout 1 = .ok (.ifCond .eq 18, 3) := by decide +kernel
theorem dX10_isLayout_4 : decode cX10_isLayout 4 = .ok (.iload_n 0, 1) := by decide +kernel
theorem dX10_isLayout_5 : decode cX10_isLayout 5 = .ok (.iconst 1, 1) := by decide +kernel
theorem dX10_isLayout_6 : decode cX10_isLayout 6 = .ok (.if_icmp .eq 13, 3) := by decide +kernel
theorem dX10_isLayout_9 : decode cX10_isLayout 9 = .ok (.iload_n 0, 1) := by decide +kernel
theorem dX10_isLayout_10 : decode cX10_isLayout 10 = .ok (.iconst 3, 1) := by decide +kernel
theorem dX10_isLayout_11 : decode cX10_isLayout 11 = .ok (.if_icmp .eq 8, 3) := by decide +kernel
theorem dX10_isLayout_14 : decode cX10_isLayout 14 = .ok (.iload_n 0, 1) := by decide +kernel
theorem dX10_isLayout_15 : decode cX10_isLayout 15 = .ok (.iconst 4, 1) := by decide +kernel
theorem dX10_isLayout_16 : decode cX10_isLayout 16 = .ok (.if_icmp .ne 7, 3) := by decide +kernel
theorem dX10_isLayout_19 : decode cX10_isLayout 19 = .ok (.iconst 1, 1) := by decide +kernel
theorem dX10_isLayout_20 : decode cX10_isLayout 20 = .ok (.goto 4, 3) := by decide +kernel
theorem dX10_isLayout_23 : decode cX10_isLayout 23 = .ok (.iconst 0, 1) := by decide +kernel
theorem dX10_isLayout_24 : decode cX10_isLayout 24 = .ok (.ireturn, 1) := by decide +kernel
theorem dX10_canBe_0 : decode cX10_canBe 0 = .ok (.iload_n 0, 1) := by decide +kernel
theorem dX10_canBe_1 : decode cX10_canBe 1 = .ok (.ifCond .lt 27, 3) := by decide +kernel
theorem dX10_canBe_4 : decode cX10_canBe 4 = .ok (.iload_n 0, 1) := by decide +kernel
theorem dX10_canBe_5 : decode cX10_canBe 5 = .ok (.bipush 9, 2) := by decide +kernel
theorem dX10_canBe_7 : decode cX10_canBe 7 = .ok (.if_icmp .ge 21, 3) := by decide +kernel
theorem dX10_canBe_10 : decode cX10_canBe 10 = .ok (.iload_n 1, 1) := by decide +kernel
theorem dX10_canBe_11 : decode cX10_canBe 11 = .ok (.getstatic 306, 3) := by decide +kernel
theorem dX10_canBe_14 : decode cX10_canBe 14 = .ok (.iload_n 0, 1) := by decide +kernel
theorem dX10_canBe_15 : decode cX10_canBe 15 = .ok (.iaload, 1) := by decide +kernel
theorem dX10_canBe_16 : decode cX10_canBe 16 = .ok (.if_icmp .lt 12, 3) := by decide +kernel
theorem dX10_canBe_19 : decode cX10_canBe 19 = .ok (.iload_n 1, 1) := by decide +kernel
theorem dX10_canBe_20 : decode cX10_canBe 20 = .ok (.getstatic 309, 3) := by decide +kernel
theorem dX10_canBe_23 : decode cX10_canBe 23 = .ok (.iload_n 0, 1) := by decide +kernel
theorem dX10_canBe_24 : decode cX10_canBe 24 = .ok (.iaload, 1) := by decide +kernel
theorem dX10_canBe_25 : decode cX10_canBe 25 = .ok (.if_icmp .le 5, 3) := by decide +kernel
theorem dX10_canBe_28 : decode cX10_canBe 28 = .ok (.iconst 0, 1) := by decide +kernel
theorem dX10_canBe_29 : decode cX10_canBe 29 = .ok (.ireturn, 1) := by decide +kernel
theorem dX10_canBe_30 : decode cX10_canBe 30 = .ok (.iload_n 0, 1) := by decide +kernel
theorem dX10_canBe_31 : decode cX10_canBe 31 = .ok (.ifCond .eq 8, 3) := by decide +kernel
theorem dX10_canBe_34 : decode cX10_canBe 34 = .ok (.iload_n 0, 1) := by decide +kernel
theorem dX10_canBe_35 : decode cX10_canBe 35 = .ok (.iconst 2, 1) := by decide +kernel
theorem dX10_canBe_36 : decode cX10_canBe 36 = .ok (.if_icmp .ne 7, 3) := by decide +kernel
theorem dX10_canBe_39 : decode cX10_canBe 39 = .ok (.iconst 1, 1) := by decide +kernel
theorem dX10_canBe_40 : decode cX10_canBe 40 = .ok (.goto 4, 3) := by decide +kernel
theorem dX10_canBe_43 : decode cX10_canBe 43 = .ok (.iconst 0, 1) := by decide +kernel
theorem dX10_canBe_44 : decode cX10_canBe 44 = .ok (.istore_n 2, 1) := by decide +kernel
theorem dX10_canBe_45 : decode cX10_canBe 45 = .ok (.iload_n 2, 1) := by decide +kernel
theorem dX10_canBe_46 : decode cX10_canBe 46 = .ok (.ifCond .eq 11, 3) := by decide +kernel
theorem dX10_canBe_49 : decode cX10_canBe 49 = .ok (.iload_n 1, 1) := by decide +kernel
theorem dX10_canBe_50 : decode cX10_canBe 50 = .ok (.iload_n 1, 1) := by decide +kernel
theorem dX10_canBe_51 : decode cX10_canBe 51 = .ok (.iconst 1, 1) := by decide +kernel
theorem dX10_canBe_52 : decode cX10_canBe 52 = .ok (.isub, 1) := by decide +kernel
theorem dX10_canBe_53 : decode cX10_canBe 53 = .ok (.iand, 1) := by decide +kernel
theorem dX10_canBe_54 : decode cX10_canBe 54 = .ok (.ifCond .ne 7, 3) := by decide +kernel
theorem dX10_canBe_57 : decode cX10_canBe 57 = .ok (.iconst 1, 1) := by decide +kernel
theorem dX10_canBe_58 : decode cX10_canBe 58 = .ok (.goto 4, 3) := by decide +kernel
theorem dX10_canBe_61 : decode cX10_canBe 61 = .ok (.iconst 0, 1) := by decide +kernel
theorem dX10_canBe_62 : decode cX10_canBe 62 = .ok (.ireturn, 1) := by decide +kernel
theorem dX10_canBeCell_0 : decode cX10_canBeCell 0 = .ok (.iload_n 0, 1) := by decide +kernel
theorem dX10_canBeCell_1 : decode cX10_canBeCell 1 = .ok (.ifCond .lt 25, 3) := by decide +kernel
theorem dX10_canBeCell_4 : decode cX10_canBeCell 4 = .ok (.iload_n 0, 1) := by decide +kernel
theorem dX10_canBeCell_5 : decode cX10_canBeCell 5 = .ok (.sipush 512, 3) := by decide +kernel
theorem dX10_canBeCell_8 : decode cX10_canBeCell 8 = .ok (.if_icmp .ge 18, 3) := by decide +kernel
theorem dX10_canBeCell_11 : decode cX10_canBeCell 11 = .ok (.iload_n 1, 1) := by decide +kernel
theorem dX10_canBeCell_12 : decode cX10_canBeCell 12 = .ok (.ifCond .lt 14, 3) := by decide +kernel
theorem dX10_canBeCell_15 : decode cX10_canBeCell 15 = .ok (.iload_n 1, 1) := by decide +kernel
theorem dX10_canBeCell_16 : decode cX10_canBeCell 16 = .ok (.sipush 256, 3) := by decide +kernel
theorem dX10_canBeCell_19 : decode cX10_canBeCell 19 = .ok (.if_icmp .ge 7, 3) := by decide +kernel
theorem dX10_canBeCell_22 : decode cX10_canBeCell 22 = .ok (.iconst 1, 1) := by decide +kernel
theorem dX10_canBeCell_23 : decode cX10_canBeCell 23 = .ok (.goto 4, 3) := by decide +kernel
theorem dX10_canBeCell_26 : decode cX10_canBeCell 26 = .ok (.iconst 0, 1) := by decide +kernel
theorem dX10_canBeCell_27 : decode cX10_canBeCell 27 = .ok (.ireturn, 1) := by decide +kernel
theorem dX10_log_0 : decode cX10_log 0 = .ok (.iload_n 0, 1) := by decide +kernel
theorem dX10_log_1 : decode cX10_log 1 = .ok (.iconst 1, 1) := by decide +kernel
theorem dX10_log_2 : decode cX10_log 2 = .ok (.isub, 1) := by decide +kernel
theorem dX10_log_3 : decode cX10_log 3 = .ok (.invokestatic 312, 3) := by decide +kernel
theorem dX10_log_6 : decode cX10_log 6 = .ok (.ireturn, 1) := by decide +kernel
theorem dX10_upward_0 : decode cX10_upward 0 = .ok (.iload_n 1, 1) := by decide +kernel
theorem dX10_upward_1 : decode cX10_upward 1 = .ok (.iconst 1, 1) := by decide +kernel
theorem dX10_upward_2 : decode cX10_upward 2 = .ok (.if_icmp .ge 7, 3) := by decide +kernel
theorem dX10_upward_5 : decode cX10_upward 5 = .ok (.iconst 0, 1) := by decide +kernel
theorem dX10_upward_6 : decode cX10_upward 6 = .ok (.goto 10, 3) := by decide +kernel
theorem dX10_upward_9 : decode cX10_upward 9 = .ok (.iload_n 0, 1) := by decide +kernel
theorem dX10_upward_10 : decode cX10_upward 10 = .ok (.iload_n 1, 1) := by decide +kernel
theorem dX10_upward_11 : decode cX10_upward 11 = .ok (.iadd, 1) := by decide +kernel
theorem dX10_upward_12 : decode cX10_upward 12 = .ok (.iconst 1, 1) := by decide +kernel
theorem dX10_upward_13 : decode cX10_upward 13 = .ok (.isub, 1) := by decide +kernel
theorem dX10_upward_14 : decode cX10_upward 14 = .ok (.iload_n 1, 1) := by decide +kernel
theorem dX10_upward_15 : decode cX10_upward 15 = .ok (.idiv, 1) := by decide +kernel
theorem dX10_upward_16 : decode cX10_upward 16 = .ok (.ireturn, 1) := by decide +kernel
theorem dX10_putRising_0 : decode cX10_putRising 0 = .ok (.iconst 0, 1) := by decide +kernel
theorem dX10_putRising_1 : decode cX10_putRising 1 = .ok (.istore_n 3, 1) := by decide +kernel
theorem dX10_putRising_2 : decode cX10_putRising 2 = .ok (.iload_n 3, 1) := by decide +kernel
theorem dX10_putRising_3 : decode cX10_putRising 3 = .ok (.iload_n 1, 1) := by decide +kernel
theorem dX10_putRising_4 : decode cX10_putRising 4 = .ok (.if_icmp .ge 16, 3) := by decide +kernel
theorem dX10_putRising_7 : decode cX10_putRising 7 = .ok (.aload_n 0, 1) := by decide +kernel
theorem dX10_putRising_8 : decode cX10_putRising 8 = .ok (.iload_n 3, 1) := by decide +kernel
theorem dX10_putRising_9 : decode cX10_putRising 9 = .ok (.iaload, 1) := by decide +kernel
theorem dX10_putRising_10 : decode cX10_putRising 10 = .ok (.iload_n 2, 1) := by decide +kernel
theorem dX10_putRising_11 : decode cX10_putRising 11 = .ok (.if_icmp .ge 9, 3) := by decide +kernel
theorem dX10_putRising_14 : decode cX10_putRising 14 = .ok (.iinc 3 1, 3) := by decide +kernel
theorem dX10_putRising_17 : decode cX10_putRising 17 = .ok (.goto (-15), 3) := by decide +kernel
theorem dX10_putRising_20 : decode cX10_putRising 20 = .ok (.iload_n 1, 1) := by decide +kernel
theorem dX10_putRising_21 : decode cX10_putRising 21 = .ok (.aload_n 0, 1) := by decide +kernel
theorem dX10_putRising_22 : decode cX10_putRising 22 = .ok (.arraylength, 1) := by decide +kernel
theorem dX10_putRising_23 : decode cX10_putRising 23 = .ok (.if_icmp .ge 15, 3) := by decide +kernel
theorem dX10_putRising_26 : decode cX10_putRising 26 = .ok (.iload_n 3, 1) := by decide +kernel
theorem dX10_putRising_27 : decode cX10_putRising 27 = .ok (.iload_n 1, 1) := by decide +kernel
theorem dX10_putRising_28 : decode cX10_putRising 28 = .ok (.if_icmp .ge 12, 3) := by decide +kernel
theorem dX10_putRising_31 : decode cX10_putRising 31 = .ok (.aload_n 0, 1) := by decide +kernel
theorem dX10_putRising_32 : decode cX10_putRising 32 = .ok (.iload_n 3, 1) := by decide +kernel
theorem dX10_putRising_33 : decode cX10_putRising 33 = .ok (.iaload, 1) := by decide +kernel
theorem dX10_putRising_34 : decode cX10_putRising 34 = .ok (.iload_n 2, 1) := by decide +kernel
theorem dX10_putRising_35 : decode cX10_putRising 35 = .ok (.if_icmp .ne 5, 3) := by decide +kernel
theorem dX10_putRising_38 : decode cX10_putRising 38 = .ok (.iload_n 1, 1) := by decide +kernel
theorem dX10_putRising_39 : decode cX10_putRising 39 = .ok (.ireturn, 1) := by decide +kernel
theorem dX10_putRising_40 : decode cX10_putRising 40 = .ok (.iload_n 1, 1) := by decide +kernel
theorem dX10_putRising_41 : decode cX10_putRising 41 = .ok (.istore 4, 2) := by decide +kernel
theorem dX10_putRising_43 : decode cX10_putRising 43 = .ok (.iload 4, 2) := by decide +kernel
theorem dX10_putRising_45 : decode cX10_putRising 45 = .ok (.iload_n 3, 1) := by decide +kernel
theorem dX10_putRising_46 : decode cX10_putRising 46 = .ok (.if_icmp .le 19, 3) := by decide +kernel
theorem dX10_putRising_49 : decode cX10_putRising 49 = .ok (.aload_n 0, 1) := by decide +kernel
theorem dX10_putRising_50 : decode cX10_putRising 50 = .ok (.iload 4, 2) := by decide +kernel
theorem dX10_putRising_52 : decode cX10_putRising 52 = .ok (.aload_n 0, 1) := by decide +kernel
theorem dX10_putRising_53 : decode cX10_putRising 53 = .ok (.iload 4, 2) := by decide +kernel
theorem dX10_putRising_55 : decode cX10_putRising 55 = .ok (.iconst 1, 1) := by decide +kernel
theorem dX10_putRising_56 : decode cX10_putRising 56 = .ok (.isub, 1) := by decide +kernel
theorem dX10_putRising_57 : decode cX10_putRising 57 = .ok (.iaload, 1) := by decide +kernel
theorem dX10_putRising_58 : decode cX10_putRising 58 = .ok (.iastore, 1) := by decide +kernel
theorem dX10_putRising_59 : decode cX10_putRising 59 = .ok (.iinc 4 (-1), 3) := by decide +kernel
theorem dX10_putRising_62 : decode cX10_putRising 62 = .ok (.goto (-19), 3) := by decide +kernel
theorem dX10_putRising_65 : decode cX10_putRising 65 = .ok (.aload_n 0, 1) := by decide +kernel
theorem dX10_putRising_66 : decode cX10_putRising 66 = .ok (.iload_n 3, 1) := by decide +kernel
theorem dX10_putRising_67 : decode cX10_putRising 67 = .ok (.iload_n 2, 1) := by decide +kernel
theorem dX10_putRising_68 : decode cX10_putRising 68 = .ok (.iastore, 1) := by decide +kernel
theorem dX10_putRising_69 : decode cX10_putRising 69 = .ok (.iload_n 1, 1) := by decide +kernel
theorem dX10_putRising_70 : decode cX10_putRising 70 = .ok (.iconst 1, 1) := by decide +kernel
theorem dX10_putRising_71 : decode cX10_putRising 71 = .ok (.iadd, 1) := by decide +kernel
theorem dX10_putRising_72 : decode cX10_putRising 72 = .ok (.ireturn, 1) := by decide +kernel
theorem dX10_lineWord_0 : decode cX10_lineWord 0 = .ok (.iload_n 0, 1) := by decide +kernel
theorem dX10_lineWord_1 : decode cX10_lineWord 1 = .ok (.tableswitch 71 0 6 #[43, 47, 51, 55, 59, 63, 67], 43) := by decide +kernel
theorem dX10_lineWord_44 : decode cX10_lineWord 44 = .ok (.ldc_w 317, 3) := by decide +kernel
theorem dX10_lineWord_47 : decode cX10_lineWord 47 = .ok (.areturn, 1) := by decide +kernel
theorem dX10_lineWord_48 : decode cX10_lineWord 48 = .ok (.ldc_w 319, 3) := by decide +kernel
theorem dX10_lineWord_51 : decode cX10_lineWord 51 = .ok (.areturn, 1) := by decide +kernel
theorem dX10_lineWord_52 : decode cX10_lineWord 52 = .ok (.ldc_w 321, 3) := by decide +kernel
theorem dX10_lineWord_55 : decode cX10_lineWord 55 = .ok (.areturn, 1) := by decide +kernel
theorem dX10_lineWord_56 : decode cX10_lineWord 56 = .ok (.ldc_w 322, 3) := by decide +kernel
theorem dX10_lineWord_59 : decode cX10_lineWord 59 = .ok (.areturn, 1) := by decide +kernel
theorem dX10_lineWord_60 : decode cX10_lineWord 60 = .ok (.ldc_w 324, 3) := by decide +kernel
theorem dX10_lineWord_63 : decode cX10_lineWord 63 = .ok (.areturn, 1) := by decide +kernel
theorem dX10_lineWord_64 : decode cX10_lineWord 64 = .ok (.ldc_w 326, 3) := by decide +kernel
theorem dX10_lineWord_67 : decode cX10_lineWord 67 = .ok (.areturn, 1) := by decide +kernel
theorem dX10_lineWord_68 : decode cX10_lineWord 68 = .ok (.ldc_w 328, 3) := by decide +kernel
theorem dX10_lineWord_71 : decode cX10_lineWord 71 = .ok (.areturn, 1) := by decide +kernel
theorem dX10_lineWord_72 : decode cX10_lineWord 72 = .ok (.ldc_w 330, 3) := by decide +kernel
theorem dX10_lineWord_75 : decode cX10_lineWord 75 = .ok (.areturn, 1) := by decide +kernel
theorem dX10_wishWord_0 : decode cX10_wishWord 0 = .ok (.iload_n 0, 1) := by decide +kernel
theorem dX10_wishWord_1 : decode cX10_wishWord 1 = .ok (.lookupswitch 35 #[(0, 27), (1, 31)], 27) := by decide +kernel
theorem dX10_wishWord_28 : decode cX10_wishWord 28 = .ok (.ldc_w 332, 3) := by decide +kernel
theorem dX10_wishWord_31 : decode cX10_wishWord 31 = .ok (.areturn, 1) := by decide +kernel
theorem dX10_wishWord_32 : decode cX10_wishWord 32 = .ok (.ldc_w 334, 3) := by decide +kernel
theorem dX10_wishWord_35 : decode cX10_wishWord 35 = .ok (.areturn, 1) := by decide +kernel
theorem dX10_wishWord_36 : decode cX10_wishWord 36 = .ok (.ldc_w 336, 3) := by decide +kernel
theorem dX10_wishWord_39 : decode cX10_wishWord 39 = .ok (.areturn, 1) := by decide +kernel
theorem dX11_init_0 : decode cX11_init 0 = .ok (.aload_n 0, 1) := by decide +kernel
theorem dX11_init_1 : decode cX11_init 1 = .ok (.invokespecial 1, 3) := by decide +kernel
theorem dX11_init_4 : decode cX11_init 4 = .ok (.aload_n 0, 1) := by decide +kernel
theorem dX11_init_5 : decode cX11_init 5 = .ok (.ldc 7, 2) := by decide +kernel
theorem dX11_init_7 : decode cX11_init 7 = .ok (.newarray .int, 2) := by decide +kernel
theorem dX11_init_9 : decode cX11_init 9 = .ok (.putfield 8, 3) := by decide +kernel
theorem dX11_init_12 : decode cX11_init 12 = .ok (.aload_n 0, 1) := by decide +kernel
theorem dX11_init_13 : decode cX11_init 13 = .ok (.sipush 300, 3) := by decide +kernel
theorem dX11_init_16 : decode cX11_init 16 = .ok (.newarray .int, 2) := by decide +kernel
theorem dX11_init_18 : decode cX11_init 18 = .ok (.putfield 14, 3) := by decide +kernel
theorem dX11_init_21 : decode cX11_init 21 = .ok (.aload_n 0, 1) := by decide +kernel
theorem dX11_init_22 : decode cX11_init 22 = .ok (.iconst 3, 1) := by decide +kernel
theorem dX11_init_23 : decode cX11_init 23 = .ok (.newarray .boolean, 2) := by decide +kernel
theorem dX11_init_25 : decode cX11_init 25 = .ok (.putfield 17, 3) := by decide +kernel
theorem dX11_init_28 : decode cX11_init 28 = .ok (.aload_n 0, 1) := by decide +kernel
theorem dX11_init_29 : decode cX11_init 29 = .ok (.iconst (-1), 1) := by decide +kernel
theorem dX11_init_30 : decode cX11_init 30 = .ok (.putfield 21, 3) := by decide +kernel
theorem dX11_init_33 : decode cX11_init 33 = .ok (.aload_n 0, 1) := by decide +kernel
theorem dX11_init_34 : decode cX11_init 34 = .ok (.bipush 8, 2) := by decide +kernel
theorem dX11_init_36 : decode cX11_init 36 = .ok (.newarray .int, 2) := by decide +kernel
theorem dX11_init_38 : decode cX11_init 38 = .ok (.putfield 25, 3) := by decide +kernel
theorem dX11_init_41 : decode cX11_init 41 = .ok (.aload_n 0, 1) := by decide +kernel
theorem dX11_init_42 : decode cX11_init 42 = .ok (.bipush 12, 2) := by decide +kernel
theorem dX11_init_44 : decode cX11_init 44 = .ok (.newarray .int, 2) := by decide +kernel
theorem dX11_init_46 : decode cX11_init 46 = .ok (.putfield 28, 3) := by decide +kernel
theorem dX11_init_49 : decode cX11_init 49 = .ok (.aload_n 0, 1) := by decide +kernel
theorem dX11_init_50 : decode cX11_init 50 = .ok (.iconst 2, 1) := by decide +kernel
theorem dX11_init_51 : decode cX11_init 51 = .ok (.newarray .int, 2) := by decide +kernel
theorem dX11_init_53 : decode cX11_init 53 = .ok (.putfield 31, 3) := by decide +kernel
theorem dX11_init_56 : decode cX11_init 56 = .ok (.aload_n 0, 1) := by decide +kernel
theorem dX11_init_57 : decode cX11_init 57 = .ok (.bipush 13, 2) := by decide +kernel
theorem dX11_init_59 : decode cX11_init 59 = .ok (.newarray .int, 2) := by decide +kernel
theorem dX11_init_61 : decode cX11_init 61 = .ok (.putfield 34, 3) := by decide +kernel
theorem dX11_init_64 : decode cX11_init 64 = .ok (.aload_n 0, 1) := by decide +kernel
theorem dX11_init_65 : decode cX11_init 65 = .ok (.sipush 600, 3) := by decide +kernel
theorem dX11_init_68 : decode cX11_init 68 = .ok (.newarray .int, 2) := by decide +kernel
theorem dX11_init_70 : decode cX11_init 70 = .ok (.putfield 37, 3) := by decide +kernel
theorem dX11_init_73 : decode cX11_init 73 = .ok (.aload_n 0, 1) := by decide +kernel
theorem dX11_init_74 : decode cX11_init 74 = .ok (.iconst 0, 1) := by decide +kernel
theorem dX11_init_75 : decode cX11_init 75 = .ok (.invokevirtual 40, 3) := by decide +kernel
theorem dX11_init_78 : decode cX11_init 78 = .ok (.return_, 1) := by decide +kernel
theorem dX11_firsts_0 : decode cX11_firsts 0 = .ok (.iconst 0, 1) := by decide +kernel
theorem dX11_firsts_1 : decode cX11_firsts 1 = .ok (.istore_n 2, 1) := by decide +kernel
theorem dX11_firsts_2 : decode cX11_firsts 2 = .ok (.iload_n 2, 1) := by decide +kernel
theorem dX11_firsts_3 : decode cX11_firsts 3 = .ok (.bipush 46, 2) := by decide +kernel
theorem dX11_firsts_5 : decode cX11_firsts 5 = .ok (.if_icmp .ge 18, 3) := by decide +kernel
theorem dX11_firsts_8 : decode cX11_firsts 8 = .ok (.aload_n 0, 1) := by decide +kernel
theorem dX11_firsts_9 : decode cX11_firsts 9 = .ok (.getfield 8, 3) := by decide +kernel
theorem dX11_firsts_12 : decode cX11_firsts 12 = .ok (.iload_n 1, 1) := by decide +kernel
theorem dX11_firsts_13 : decode cX11_firsts 13 = .ok (.iload_n 2, 1) := by decide +kernel
theorem dX11_firsts_14 : decode cX11_firsts 14 = .ok (.iadd, 1) := by decide +kernel
theorem dX11_firsts_15 : decode cX11_firsts 15 = .ok (.iconst 0, 1) := by decide +kernel
theorem dX11_firsts_16 : decode cX11_firsts 16 = .ok (.iastore, 1) := by decide +kernel
theorem dX11_firsts_17 : decode cX11_firsts 17 = .ok (.iinc 2 1, 3) := by decide +kernel
theorem dX11_firsts_20 : decode cX11_firsts 20 = .ok (.goto (-18), 3) := by decide +kernel
theorem dX11_firsts_23 : decode cX11_firsts 23 = .ok (.aload_n 0, 1) := by decide +kernel
theorem dX11_firsts_24 : decode cX11_firsts 24 = .ok (.getfield 8, 3) := by decide +kernel
theorem dX11_firsts_27 : decode cX11_firsts 27 = .ok (.iload_n 1, 1) := by decide +kernel
theorem dX11_firsts_28 : decode cX11_firsts 28 = .ok (.iconst 0, 1) := by decide +kernel
theorem dX11_firsts_29 : decode cX11_firsts 29 = .ok (.iadd, 1) := by decide +kernel
theorem dX11_firsts_30 : decode cX11_firsts 30 = .ok (.bipush 64, 2) := by decide +kernel
theorem dX11_firsts_32 : decode cX11_firsts 32 = .ok (.iastore, 1) := by decide +kernel
theorem dX11_firsts_33 : decode cX11_firsts 33 = .ok (.aload_n 0, 1) := by decide +kernel
theorem dX11_firsts_34 : decode cX11_firsts 34 = .ok (.getfield 8, 3) := by decide +kernel
theorem dX11_firsts_37 : decode cX11_firsts 37 = .ok (.iload_n 1, 1) := by decide +kernel
theorem dX11_firsts_38 : decode cX11_firsts 38 = .ok (.iconst 1, 1) := by decide +kernel
theorem dX11_firsts_39 : decode cX11_firsts 39 = .ok (.iadd, 1) := by decide +kernel
theorem dX11_firsts_40 : decode cX11_firsts 40 = .ok (.bipush 8, 2) := by decide +kernel
theorem dX11_firsts_42 : decode cX11_firsts 42 = .ok (.iastore, 1) := by decide +kernel
theorem dX11_firsts_43 : decode cX11_firsts 43 = .ok (.aload_n 0, 1) := by decide +kernel
theorem dX11_firsts_44 : decode cX11_firsts 44 = .ok (.getfield 8, 3) := by decide +kernel
theorem dX11_firsts_47 : decode cX11_firsts 47 = .ok (.iload_n 1, 1) := by decide +kernel
theorem dX11_firsts_48 : decode cX11_firsts 48 = .ok (.iconst 3, 1) := by decide +kernel
theorem dX11_firsts_49 : decode cX11_firsts 49 = .ok (.iadd, 1) := by decide +kernel
theorem dX11_firsts_50 : decode cX11_firsts 50 = .ok (.iconst 1, 1) := by decide +kernel
theorem dX11_firsts_51 : decode cX11_firsts 51 = .ok (.iastore, 1) := by decide +kernel
theorem dX11_firsts_52 : decode cX11_firsts 52 = .ok (.aload_n 0, 1) := by decide +kernel
theorem dX11_firsts_53 : decode cX11_firsts 53 = .ok (.getfield 8, 3) := by decide +kernel
theorem dX11_firsts_56 : decode cX11_firsts 56 = .ok (.iload_n 1, 1) := by decide +kernel
theorem dX11_firsts_57 : decode cX11_firsts 57 = .ok (.iconst 5, 1) := by decide +kernel
theorem dX11_firsts_58 : decode cX11_firsts 58 = .ok (.iadd, 1) := by decide +kernel
theorem dX11_firsts_59 : decode cX11_firsts 59 = .ok (.iconst 2, 1) := by decide +kernel
theorem dX11_firsts_60 : decode cX11_firsts 60 = .ok (.iastore, 1) := by decide +kernel
theorem dX11_firsts_61 : decode cX11_firsts 61 = .ok (.aload_n 0, 1) := by decide +kernel
theorem dX11_firsts_62 : decode cX11_firsts 62 = .ok (.getfield 8, 3) := by decide +kernel
theorem dX11_firsts_65 : decode cX11_firsts 65 = .ok (.iload_n 1, 1) := by decide +kernel
theorem dX11_firsts_66 : decode cX11_firsts 66 = .ok (.bipush 6, 2) := by decide +kernel
theorem dX11_firsts_68 : decode cX11_firsts 68 = .ok (.iadd, 1) := by decide +kernel
theorem dX11_firsts_69 : decode cX11_firsts 69 = .ok (.iconst 3, 1) := by decide +kernel
theorem dX11_firsts_70 : decode cX11_firsts 70 = .ok (.iastore, 1) := by decide +kernel
theorem dX11_firsts_71 : decode cX11_firsts 71 = .ok (.aload_n 0, 1) := by decide +kernel
theorem dX11_firsts_72 : decode cX11_firsts 72 = .ok (.getfield 8, 3) := by decide +kernel
theorem dX11_firsts_75 : decode cX11_firsts 75 = .ok (.iload_n 1, 1) := by decide +kernel
theorem dX11_firsts_76 : decode cX11_firsts 76 = .ok (.bipush 7, 2) := by decide +kernel
theorem dX11_firsts_78 : decode cX11_firsts 78 = .ok (.iadd, 1) := by decide +kernel
theorem dX11_firsts_79 : decode cX11_firsts 79 = .ok (.bipush 20, 2) := by decide +kernel
theorem dX11_firsts_81 : decode cX11_firsts 81 = .ok (.iastore, 1) := by decide +kernel
theorem dX11_firsts_82 : decode cX11_firsts 82 = .ok (.return_, 1) := by decide +kernel
theorem dX11_isIn_0 : decode cX11_isIn 0 = .ok (.iload_n 0, 1) := by decide +kernel
theorem dX11_isIn_1 : decode cX11_isIn 1 = .ok (.iload_n 1, 1) := by decide +kernel
theorem dX11_isIn_2 : decode cX11_isIn 2 = .ok (.if_icmp .lt 12, 3) := by decide +kernel
theorem dX11_isIn_5 : decode cX11_isIn 5 = .ok (.iload_n 0, 1) := by decide +kernel
theorem dX11_isIn_6 : decode cX11_isIn 6 = .ok (.iload_n 2, 1) := by decide +kernel
theorem dX11_isIn_7 : decode cX11_isIn 7 = .ok (.if_icmp .gt 7, 3) := by decide +kernel
theorem dX11_isIn_10 : decode cX11_isIn 10 = .ok (.iconst 1, 1) := by decide +kernel
theorem dX11_isIn_11 : decode cX11_isIn 11 = .ok (.goto 4, 3) := by decide +kernel
theorem dX11_isIn_14 : decode cX11_isIn 14 = .ok (.iconst 0, 1) := by decide +kernel
theorem dX11_isIn_15 : decode cX11_isIn 15 = .ok (.ireturn, 1) := by decide +kernel
theorem dX11_copies_0 : decode cX11_copies 0 = .ok (.iconst 0, 1) := by decide +kernel
theorem dX11_copies_1 : decode cX11_copies 1 = .ok (.istore 4, 2) := by decide +kernel
theorem dX11_copies_3 : decode cX11_copies 3 = .ok (.iload 4, 2) := by decide +kernel
theorem dX11_copies_5 : decode cX11_copies 5 = .ok (.iload_n 3, 1) := by decide +kernel
theorem dX11_copies_6 : decode cX11_copies 6 = .ok (.if_icmp .ge 27, 3) := by decide +kernel
theorem dX11_copies_9 : decode cX11_copies 9 = .ok (.aload_n 0, 1) := by decide +kernel
theorem dX11_copies_10 : decode cX11_copies 10 = .ok (.getfield 8, 3) := by decide +kernel
theorem dX11_copies_13 : decode cX11_copies 13 = .ok (.iload_n 2, 1) := by decide +kernel
theorem dX11_copies_14 : decode cX11_copies 14 = .ok (.iload 4, 2) := by decide +kernel
theorem dX11_copies_16 : decode cX11_copies 16 = .ok (.iadd, 1) := by decide +kernel
theorem dX11_copies_17 : decode cX11_copies 17 = .ok (.aload_n 0, 1) := by decide +kernel
theorem dX11_copies_18 : decode cX11_copies 18 = .ok (.getfield 8, 3) := by decide +kernel
theorem dX11_copies_21 : decode cX11_copies 21 = .ok (.iload_n 1, 1) := by decide +kernel
theorem dX11_copies_22 : decode cX11_copies 22 = .ok (.iload 4, 2) := by decide +kernel
theorem dX11_copies_24 : decode cX11_copies 24 = .ok (.iadd, 1) := by decide +kernel
theorem dX11_copies_25 : decode cX11_copies 25 = .ok (.iaload, 1) := by decide +kernel
theorem dX11_copies_26 : decode cX11_copies 26 = .ok (.iastore, 1) := by decide +kernel
theorem dX11_copies_27 : decode cX11_copies 27 = .ok (.iinc 4 1, 3) := by decide +kernel
theorem dX11_copies_30 : decode cX11_copies 30 = .ok (.goto (-27), 3) := by decide +kernel
theorem dX11_copies_33 : decode cX11_copies 33 = .ok (.return_, 1) := by decide +kernel
theorem dX11_up_0 : decode cX11_up 0 = .ok (.iload_n 0, 1) := by decide +kernel
theorem dX11_up_1 : decode cX11_up 1 = .ok (.iload_n 1, 1) := by decide +kernel
theorem dX11_up_2 : decode cX11_up 2 = .ok (.iadd, 1) := by decide +kernel
theorem dX11_up_3 : decode cX11_up 3 = .ok (.iconst 1, 1) := by decide +kernel
theorem dX11_up_4 : decode cX11_up 4 = .ok (.isub, 1) := by decide +kernel
theorem dX11_up_5 : decode cX11_up 5 = .ok (.iload_n 1, 1) := by decide +kernel
theorem dX11_up_6 : decode cX11_up 6 = .ok (.idiv, 1) := by decide +kernel
theorem dX11_up_7 : decode cX11_up 7 = .ok (.ireturn, 1) := by decide +kernel
theorem dX11_isMux_0 : decode cX11_isMux 0 = .ok (.iload_n 0, 1) := by decide +kernel
theorem dX11_isMux_1 : decode cX11_isMux 1 = .ok (.iconst 1, 1) := by decide +kernel
theorem dX11_isMux_2 : decode cX11_isMux 2 = .ok (.if_icmp .eq 19, 3) := by decide +kernel
theorem dX11_isMux_5 : decode cX11_isMux 5 = .ok (.iload_n 0, 1) := by decide +kernel
theorem dX11_isMux_6 : decode cX11_isMux 6 = .ok (.iconst 2, 1) := by decide +kernel
theorem dX11_isMux_7 : decode cX11_isMux 7 = .ok (.if_icmp .eq 14, 3) := by decide +kernel
theorem dX11_isMux_10 : decode cX11_isMux 10 = .ok (.iload_n 0, 1) := by decide +kernel
theorem dX11_isMux_11 : decode cX11_isMux 11 = .ok (.iconst 4, 1) := by decide +kernel
theorem dX11_isMux_12 : decode cX11_isMux 12 = .ok (.if_icmp .eq 9, 3) := by decide +kernel
theorem dX11_isMux_15 : decode cX11_isMux 15 = .ok (.iload_n 0, 1) := by decide +kernel
theorem dX11_isMux_16 : decode cX11_isMux 16 = .ok (.bipush 8, 2) := by decide +kernel
theorem dX11_isMux_18 : decode cX11_isMux 18 = .ok (.if_icmp .ne 7, 3) := by decide +kernel
theorem dX11_isMux_21 : decode cX11_isMux 21 = .ok (.iconst 1, 1) := by decide +kernel
theorem dX11_isMux_22 : decode cX11_isMux 22 = .ok (.goto 4, 3) := by decide +kernel
theorem dX11_isMux_25 : decode cX11_isMux 25 = .ok (.iconst 0, 1) := by decide +kernel
theorem dX11_isMux_26 : decode cX11_isMux 26 = .ok (.ireturn, 1) := by decide +kernel
theorem dX11_log_0 : decode cX11_log 0 = .ok (.iconst 0, 1) := by decide +kernel
theorem dX11_log_1 : decode cX11_log 1 = .ok (.istore_n 1, 1) := by decide +kernel
theorem dX11_log_2 : decode cX11_log 2 = .ok (.iload_n 0, 1) := by decide +kernel
theorem dX11_log_3 : decode cX11_log 3 = .ok (.iload_n 1, 1) := by decide +kernel
theorem dX11_log_4 : decode cX11_log 4 = .ok (.iconst 1, 1) := by decide +kernel
theorem dX11_log_5 : decode cX11_log 5 = .ok (.iadd, 1) := by decide +kernel
theorem dX11_log_6 : decode cX11_log 6 = .ok (.ishr, 1) := by decide +kernel
theorem dX11_log_7 : decode cX11_log 7 = .ok (.ifCond .le 9, 3) := by decide +kernel
theorem dX11_log_10 : decode cX11_log 10 = .ok (.iinc 1 1, 3) := by decide +kernel
theorem dX11_log_13 : decode cX11_log 13 = .ok (.goto (-11), 3) := by decide +kernel
theorem dX11_log_16 : decode cX11_log 16 = .ok (.iload_n 1, 1) := by decide +kernel
theorem dX11_log_17 : decode cX11_log 17 = .ok (.ireturn, 1) := by decide +kernel
theorem dX11_rows_0 : decode cX11_rows 0 = .ok (.aload_n 0, 1) := by decide +kernel
theorem dX11_rows_1 : decode cX11_rows 1 = .ok (.getfield 8, 3) := by decide +kernel
theorem dX11_rows_4 : decode cX11_rows 4 = .ok (.iload_n 1, 1) := by decide +kernel
theorem dX11_rows_5 : decode cX11_rows 5 = .ok (.iconst 0, 1) := by decide +kernel
theorem dX11_rows_6 : decode cX11_rows 6 = .ok (.iadd, 1) := by decide +kernel
theorem dX11_rows_7 : decode cX11_rows 7 = .ok (.iaload, 1) := by decide +kernel
theorem dX11_rows_8 : decode cX11_rows 8 = .ok (.iload_n 2, 1) := by decide +kernel
theorem dX11_rows_9 : decode cX11_rows 9 = .ok (.idiv, 1) := by decide +kernel
theorem dX11_rows_10 : decode cX11_rows 10 = .ok (.ireturn, 1) := by decide +kernel
theorem dX11_isPossible_0 : decode cX11_isPossible 0 = .ok (.iload_n 2, 1) := by decide +kernel
theorem dX11_isPossible_1 : decode cX11_isPossible 1 = .ok (.invokestatic 44, 3) := by decide +kernel
theorem dX11_isPossible_4 : decode cX11_isPossible 4 = .ok (.ifCond .eq 24, 3) := by decide +kernel
theorem dX11_isPossible_7 : decode cX11_isPossible 7 = .ok (.aload_n 0, 1) := by decide +kernel
theorem dX11_isPossible_8 : decode cX11_isPossible 8 = .ok (.iload_n 1, 1) := by decide +kernel
theorem dX11_isPossible_9 : decode cX11_isPossible 9 = .ok (.iload_n 2, 1) := by decide +kernel
theorem dX11_isPossible_10 : decode cX11_isPossible 10 = .ok (.invokevirtual 48, 3) := by decide +kernel
theorem dX11_isPossible_13 : decode cX11_isPossible 13 = .ok (.bipush 8, 2) := by decide +kernel
theorem dX11_isPossible_15 : decode cX11_isPossible 15 = .ok (.sipush 512, 3) := by decide +kernel
theorem dX11_isPossible_18 : decode cX11_isPossible 18 = .ok (.invokestatic 52, 3) := by decide +kernel
theorem dX11_isPossible_21 : decode cX11_isPossible 21 = .ok (.ifCond .eq 7, 3) := by decide +kernel
theorem dX11_isPossible_24 : decode cX11_isPossible 24 = .ok (.iconst 1, 1) := by decide +kernel
theorem dX11_isPossible_25 : decode cX11_isPossible 25 = .ok (.goto 4, 3) := by decide +kernel
theorem dX11_isPossible_28 : decode cX11_isPossible 28 = .ok (.iconst 0, 1) := by decide +kernel
theorem dX11_isPossible_29 : decode cX11_isPossible 29 = .ok (.ireturn, 1) := by decide +kernel
theorem dX11_columns_0 : decode cX11_columns 0 = .ok (.aload_n 0, 1) := by decide +kernel
theorem dX11_columns_1 : decode cX11_columns 1 = .ok (.getfield 8, 3) := by decide +kernel
theorem dX11_columns_4 : decode cX11_columns 4 = .ok (.iload_n 1, 1) := by decide +kernel
theorem dX11_columns_5 : decode cX11_columns 5 = .ok (.iconst 1, 1) := by decide +kernel
theorem dX11_columns_6 : decode cX11_columns 6 = .ok (.iadd, 1) := by decide +kernel
theorem dX11_columns_7 : decode cX11_columns 7 = .ok (.iaload, 1) := by decide +kernel
theorem dX11_columns_8 : decode cX11_columns 8 = .ok (.iload_n 2, 1) := by decide +kernel
theorem dX11_columns_9 : decode cX11_columns 9 = .ok (.imul, 1) := by decide +kernel
theorem dX11_columns_10 : decode cX11_columns 10 = .ok (.ireturn, 1) := by decide +kernel
theorem dX11_allRows_0 : decode cX11_allRows 0 = .ok (.aload_n 0, 1) := by decide +kernel
theorem dX11_allRows_1 : decode cX11_allRows 1 = .ok (.iload_n 1, 1) := by decide +kernel
theorem dX11_allRows_2 : decode cX11_allRows 2 = .ok (.iload_n 2, 1) := by decide +kernel
theorem dX11_allRows_3 : decode cX11_allRows 3 = .ok (.invokevirtual 48, 3) := by decide +kernel
theorem dX11_allRows_6 : decode cX11_allRows 6 = .ok (.aload_n 0, 1) := by decide +kernel
theorem dX11_allRows_7 : decode cX11_allRows 7 = .ok (.getfield 8, 3) := by decide +kernel
theorem dX11_allRows_10 : decode cX11_allRows 10 = .ok (.iload_n 1, 1) := by decide +kernel
theorem dX11_allRows_11 : decode cX11_allRows 11 = .ok (.iconst 3, 1) := by decide +kernel
theorem dX11_allRows_12 : decode cX11_allRows 12 = .ok (.iadd, 1) := by decide +kernel
theorem dX11_allRows_13 : decode cX11_allRows 13 = .ok (.iaload, 1) := by decide +kernel
theorem dX11_allRows_14 : decode cX11_allRows 14 = .ok (.iadd, 1) := by decide +kernel
theorem dX11_allRows_15 : decode cX11_allRows 15 = .ok (.iconst 1, 1) := by decide +kernel
theorem dX11_allRows_16 : decode cX11_allRows 16 = .ok (.iadd, 1) := by decide +kernel
theorem dX11_allRows_17 : decode cX11_allRows 17 = .ok (.ireturn, 1) := by decide +kernel
theorem dX11_allColumns_0 : decode cX11_allColumns 0 = .ok (.aload_n 0, 1) := by decide +kernel
theorem dX11_allColumns_1 : decode cX11_allColumns 1 = .ok (.iload_n 1, 1) := by decide +kernel
theorem dX11_allColumns_2 : decode cX11_allColumns 2 = .ok (.iload_n 2, 1) := by decide +kernel
theorem dX11_allColumns_3 : decode cX11_allColumns 3 = .ok (.invokevirtual 56, 3) := by decide +kernel
theorem dX11_allColumns_6 : decode cX11_allColumns 6 = .ok (.aload_n 0, 1) := by decide +kernel
theorem dX11_allColumns_7 : decode cX11_allColumns 7 = .ok (.getfield 8, 3) := by decide +kernel
theorem dX11_allColumns_10 : decode cX11_allColumns 10 = .ok (.iload_n 1, 1) := by decide +kernel
theorem dX11_allColumns_11 : decode cX11_allColumns 11 = .ok (.iconst 4, 1) := by decide +kernel
theorem dX11_allColumns_12 : decode cX11_allColumns 12 = .ok (.iadd, 1) := by decide +kernel
theorem dX11_allColumns_13 : decode cX11_allColumns 13 = .ok (.iaload, 1) := by decide +kernel
theorem dX11_allColumns_14 : decode cX11_allColumns 14 = .ok (.iadd, 1) := by decide +kernel
theorem dX11_allColumns_15 : decode cX11_allColumns 15 = .ok (.iconst 1, 1) := by decide +kernel
theorem dX11_allColumns_16 : decode cX11_allColumns 16 = .ok (.iadd, 1) := by decide +kernel
theorem dX11_allColumns_17 : decode cX11_allColumns 17 = .ok (.ireturn, 1) := by decide +kernel
theorem dX11_lines_0 : decode cX11_lines 0 = .ok (.aload_n 0, 1) := by decide +kernel
theorem dX11_lines_1 : decode cX11_lines 1 = .ok (.iload_n 1, 1) := by decide +kernel
theorem dX11_lines_2 : decode cX11_lines 2 = .ok (.iload_n 2, 1) := by decide +kernel
theorem dX11_lines_3 : decode cX11_lines 3 = .ok (.invokevirtual 48, 3) := by decide +kernel
theorem dX11_lines_6 : decode cX11_lines 6 = .ok (.invokestatic 59, 3) := by decide +kernel
theorem dX11_lines_9 : decode cX11_lines 9 = .ok (.ireturn, 1) := by decide +kernel
theorem dX11_firstInputs_0 : decode cX11_firstInputs 0 = .ok (.aload_n 0, 1) := by decide +kernel
theorem dX11_firstInputs_1 : decode cX11_firstInputs 1 = .ok (.iload_n 1, 1) := by decide +kernel
theorem dX11_firstInputs_2 : decode cX11_firstInputs 2 = .ok (.iload_n 2, 1) := by decide +kernel
theorem dX11_firstInputs_3 : decode cX11_firstInputs 3 = .ok (.invokevirtual 63, 3) := by decide +kernel
theorem dX11_firstInputs_6 : decode cX11_firstInputs 6 = .ok (.iconst 5, 1) := by decide +kernel
theorem dX11_firstInputs_7 : decode cX11_firstInputs 7 = .ok (.if_icmp .lt 7, 3) := by decide +kernel
theorem dX11_firstInputs_10 : decode cX11_firstInputs 10 = .ok (.iconst 3, 1) := by decide +kernel
theorem dX11_firstInputs_11 : decode cX11_firstInputs 11 = .ok (.goto 4, 3) := by decide +kernel
theorem dX11_firstInputs_14 : decode cX11_firstInputs 14 = .ok (.iconst 2, 1) := by decide +kernel
theorem dX11_firstInputs_15 : decode cX11_firstInputs 15 = .ok (.ireturn, 1) := by decide +kernel
theorem dX11_lastInputs_0 : decode cX11_lastInputs 0 = .ok (.aload_n 0, 1) := by decide +kernel
theorem dX11_lastInputs_1 : decode cX11_lastInputs 1 = .ok (.iload_n 1, 1) := by decide +kernel
theorem dX11_lastInputs_2 : decode cX11_lastInputs 2 = .ok (.iload_n 2, 1) := by decide +kernel
theorem dX11_lastInputs_3 : decode cX11_lastInputs 3 = .ok (.invokevirtual 63, 3) := by decide +kernel
theorem dX11_lastInputs_6 : decode cX11_lastInputs 6 = .ok (.aload_n 0, 1) := by decide +kernel
theorem dX11_lastInputs_7 : decode cX11_lastInputs 7 = .ok (.iload_n 1, 1) := by decide +kernel
theorem dX11_lastInputs_8 : decode cX11_lastInputs 8 = .ok (.iload_n 2, 1) := by decide +kernel
theorem dX11_lastInputs_9 : decode cX11_lastInputs 9 = .ok (.invokevirtual 66, 3) := by decide +kernel
theorem dX11_lastInputs_12 : decode cX11_lastInputs 12 = .ok (.invokestatic 69, 3) := by decide +kernel
theorem dX11_lastInputs_15 : decode cX11_lastInputs 15 = .ok (.ireturn, 1) := by decide +kernel
theorem dX11_power_0 : decode cX11_power 0 = .ok (.lconst 1, 1) := by decide +kernel
theorem dX11_power_1 : decode cX11_power 1 = .ok (.lstore_n 2, 1) := by decide +kernel
theorem dX11_power_2 : decode cX11_power 2 = .ok (.iconst 0, 1) := by decide +kernel
theorem dX11_power_3 : decode cX11_power 3 = .ok (.istore 4, 2) := by decide +kernel
theorem dX11_power_5 : decode cX11_power 5 = .ok (.iload 4, 2) := by decide +kernel
theorem dX11_power_7 : decode cX11_power 7 = .ok (.iload_n 1, 1) := by decide +kernel
theorem dX11_power_8 : decode cX11_power 8 = .ok (.if_icmp .ge 14, 3) := by decide +kernel
theorem dX11_power_11 : decode cX11_power 11 = .ok (.lload_n 2, 1) := by decide +kernel
theorem dX11_power_12 : decode cX11_power 12 = .ok (.iload_n 0, 1) := by decide +kernel
theorem dX11_power_13 : decode cX11_power 13 = .ok (.i2l, 1) := by decide +kernel
theorem dX11_power_14 : decode cX11_power 14 = .ok (.lmul, 1) := by decide +kernel
theorem dX11_power_15 : decode cX11_power 15 = .ok (.lstore_n 2, 1) := by decide +kernel
theorem dX11_power_16 : decode cX11_power 16 = .ok (.iinc 4 1, 3) := by decide +kernel
theorem dX11_power_19 : decode cX11_power 19 = .ok (.goto (-14), 3) := by decide +kernel
theorem dX11_power_22 : decode cX11_power 22 = .ok (.lload_n 2, 1) := by decide +kernel
theorem dX11_power_23 : decode cX11_power 23 = .ok (.lreturn, 1) := by decide +kernel
theorem dX11_tenths_0 : decode cX11_tenths 0 = .ok (.aload_n 0, 1) := by decide +kernel
theorem dX11_tenths_1 : decode cX11_tenths 1 = .ok (.iload_n 1, 1) := by decide +kernel
theorem dX11_tenths_2 : decode cX11_tenths 2 = .ok (.iload_n 2, 1) := by decide +kernel
theorem dX11_tenths_3 : decode cX11_tenths 3 = .ok (.invokevirtual 66, 3) := by decide +kernel
theorem dX11_tenths_6 : decode cX11_tenths 6 = .ok (.iconst 2, 1) := by decide +kernel
theorem dX11_tenths_7 : decode cX11_tenths 7 = .ok (.iadd, 1) := by decide +kernel
theorem dX11_tenths_8 : decode cX11_tenths 8 = .ok (.i2l, 1) := by decide +kernel
theorem dX11_tenths_9 : decode cX11_tenths 9 = .ok (.aload_n 0, 1) := by decide +kernel
theorem dX11_tenths_10 : decode cX11_tenths 10 = .ok (.iload_n 1, 1) := by decide +kernel
theorem dX11_tenths_11 : decode cX11_tenths 11 = .ok (.iload_n 2, 1) := by decide +kernel
theorem dX11_tenths_12 : decode cX11_tenths 12 = .ok (.invokevirtual 72, 3) := by decide +kernel
theorem dX11_tenths_15 : decode cX11_tenths 15 = .ok (.iconst 2, 1) := by decide +kernel
theorem dX11_tenths_16 : decode cX11_tenths 16 = .ok (.iadd, 1) := by decide +kernel
theorem dX11_tenths_17 : decode cX11_tenths 17 = .ok (.i2l, 1) := by decide +kernel
theorem dX11_tenths_18 : decode cX11_tenths 18 = .ok (.lmul, 1) := by decide +kernel
theorem dX11_tenths_19 : decode cX11_tenths 19 = .ok (.aload_n 0, 1) := by decide +kernel
theorem dX11_tenths_20 : decode cX11_tenths 20 = .ok (.iload_n 1, 1) := by decide +kernel
theorem dX11_tenths_21 : decode cX11_tenths 21 = .ok (.iload_n 2, 1) := by decide +kernel
theorem dX11_tenths_22 : decode cX11_tenths 22 = .ok (.invokevirtual 48, 3) := by decide +kernel
theorem dX11_tenths_25 : decode cX11_tenths 25 = .ok (.i2l, 1) := by decide +kernel
theorem dX11_tenths_26 : decode cX11_tenths 26 = .ok (.lmul, 1) := by decide +kernel
theorem dX11_tenths_27 : decode cX11_tenths 27 = .ok (.aload_n 0, 1) := by decide +kernel
theorem dX11_tenths_28 : decode cX11_tenths 28 = .ok (.iload_n 1, 1) := by decide +kernel
theorem dX11_tenths_29 : decode cX11_tenths 29 = .ok (.iload_n 2, 1) := by decide +kernel
theorem dX11_tenths_30 : decode cX11_tenths 30 = .ok (.invokevirtual 75, 3) := by decide +kernel
theorem dX11_tenths_33 : decode cX11_tenths 33 = .ok (.i2l, 1) := by decide +kernel
theorem dX11_tenths_34 : decode cX11_tenths 34 = .ok (.lmul, 1) := by decide +kernel
theorem dX11_tenths_35 : decode cX11_tenths 35 = .ok (.lstore 4, 2) := by decide +kernel
theorem dX11_tenths_37 : decode cX11_tenths 37 = .ok (.iload_n 3, 1) := by decide +kernel
theorem dX11_tenths_38 : decode cX11_tenths 38 = .ok (.iconst 2, 1) := by decide +kernel
theorem dX11_tenths_39 : decode cX11_tenths 39 = .ok (.if_icmp .ne 8, 3) := by decide +kernel
theorem dX11_tenths_42 : decode cX11_tenths 42 = .ok (.bipush 64, 2) := by decide +kernel
theorem dX11_tenths_44 : decode cX11_tenths 44 = .ok (.goto 5, 3) := by decide +kernel
theorem dX11_tenths_47 : decode cX11_tenths 47 = .ok (.bipush 8, 2) := by decide +kernel
theorem dX11_tenths_49 : decode cX11_tenths 49 = .ok (.istore 6, 2) := by decide +kernel
theorem dX11_tenths_51 : decode cX11_tenths 51 = .ok (.iconst 0, 1) := by decide +kernel
theorem dX11_tenths_52 : decode cX11_tenths 52 = .ok (.istore 7, 2) := by decide +kernel
theorem dX11_tenths_54 : decode cX11_tenths 54 = .ok (.ldc2_w 78, 3) := by decide +kernel
theorem dX11_tenths_57 : decode cX11_tenths 57 = .ok (.iload 7, 2) := by decide +kernel
theorem dX11_tenths_59 : decode cX11_tenths 59 = .ok (.iload 6, 2) := by decide +kernel
theorem dX11_tenths_61 : decode cX11_tenths 61 = .ok (.iadd, 1) := by decide +kernel
theorem dX11_tenths_62 : decode cX11_tenths 62 = .ok (.iload_n 3, 1) := by decide +kernel
theorem dX11_tenths_63 : decode cX11_tenths 63 = .ok (.invokestatic 80, 3) := by decide +kernel
theorem dX11_tenths_66 : decode cX11_tenths 66 = .ok (.lmul, 1) := by decide +kernel
theorem dX11_tenths_67 : decode cX11_tenths 67 = .ok (.lload 4, 2) := by decide +kernel
theorem dX11_tenths_69 : decode cX11_tenths 69 = .ok (.bipush 10, 2) := by decide +kernel
theorem dX11_tenths_71 : decode cX11_tenths 71 = .ok (.iload_n 3, 1) := by decide +kernel
theorem dX11_tenths_72 : decode cX11_tenths 72 = .ok (.invokestatic 80, 3) := by decide +kernel
theorem dX11_tenths_75 : decode cX11_tenths 75 = .ok (.lmul, 1) := by decide +kernel
theorem dX11_tenths_76 : decode cX11_tenths 76 = .ok (.lcmp, 1) := by decide +kernel
theorem dX11_tenths_77 : decode cX11_tenths 77 = .ok (.ifCond .ge 13, 3) := by decide +kernel
theorem dX11_tenths_80 : decode cX11_tenths 80 = .ok (.iload 7, 2) := by decide +kernel
theorem dX11_tenths_82 : decode cX11_tenths 82 = .ok (.iload 6, 2) := by decide +kernel
theorem dX11_tenths_84 : decode cX11_tenths 84 = .ok (.iadd, 1) := by decide +kernel
theorem dX11_tenths_85 : decode cX11_tenths 85 = .ok (.istore 7, 2) := by decide +kernel
theorem dX11_tenths_87 : decode cX11_tenths 87 = .ok (.goto (-33), 3) := by decide +kernel
theorem dX11_tenths_90 : decode cX11_tenths 90 = .ok (.ldc2_w 78, 3) := by decide +kernel
theorem dX11_tenths_93 : decode cX11_tenths 93 = .ok (.iload 7, 2) := by decide +kernel
theorem dX11_tenths_95 : decode cX11_tenths 95 = .ok (.iload_n 3, 1) := by decide +kernel
theorem dX11_tenths_96 : decode cX11_tenths 96 = .ok (.invokestatic 80, 3) := by decide +kernel
theorem dX11_tenths_99 : decode cX11_tenths 99 = .ok (.lmul, 1) := by decide +kernel
theorem dX11_tenths_100 : decode cX11_tenths 100 = .ok (.lload 4, 2) := by decide +kernel
theorem dX11_tenths_102 : decode cX11_tenths 102 = .ok (.bipush 10, 2) := by decide +kernel
theorem dX11_tenths_104 : decode cX11_tenths 104 = .ok (.iload_n 3, 1) := by decide +kernel
theorem dX11_tenths_105 : decode cX11_tenths 105 = .ok (.invokestatic 80, 3) := by decide +kernel
theorem dX11_tenths_108 : decode cX11_tenths 108 = .ok (.lmul, 1) := by decide +kernel
theorem dX11_tenths_109 : decode cX11_tenths 109 = .ok (.lcmp, 1) := by decide +kernel
theorem dX11_tenths_110 : decode cX11_tenths 110 = .ok (.ifCond .ge 9, 3) := by decide +kernel
theorem dX11_tenths_113 : decode cX11_tenths 113 = .ok (.iinc 7 1, 3) := by decide +kernel
theorem dX11_tenths_116 : decode cX11_tenths 116 = .ok (.goto (-26), 3) := by decide +kernel
theorem dX11_tenths_119 : decode cX11_tenths 119 = .ok (.iload 7, 2) := by decide +kernel
theorem dX11_tenths_121 : decode cX11_tenths 121 = .ok (.ireturn, 1) := by decide +kernel
theorem dX11_delay_0 : decode cX11_delay 0 = .ok (.iload_n 3, 1) := by decide +kernel
theorem dX11_delay_1 : decode cX11_delay 1 = .ok (.aload_n 0, 1) := by decide +kernel
theorem dX11_delay_2 : decode cX11_delay 2 = .ok (.iload_n 1, 1) := by decide +kernel
theorem dX11_delay_3 : decode cX11_delay 3 = .ok (.iload_n 2, 1) := by decide +kernel
theorem dX11_delay_4 : decode cX11_delay 4 = .ok (.iload_n 3, 1) := by decide +kernel
theorem dX11_delay_5 : decode cX11_delay 5 = .ok (.invokevirtual 84, 3) := by decide +kernel
theorem dX11_delay_8 : decode cX11_delay 8 = .ok (.imul, 1) := by decide +kernel
theorem dX11_delay_9 : decode cX11_delay 9 = .ok (.bipush 10, 2) := by decide +kernel
theorem dX11_delay_11 : decode cX11_delay 11 = .ok (.aload_n 0, 1) := by decide +kernel
theorem dX11_delay_12 : decode cX11_delay 12 = .ok (.iload_n 1, 1) := by decide +kernel
theorem dX11_delay_13 : decode cX11_delay 13 = .ok (.iload_n 2, 1) := by decide +kernel
theorem dX11_delay_14 : decode cX11_delay 14 = .ok (.invokevirtual 66, 3) := by decide +kernel
theorem dX11_delay_17 : decode cX11_delay 17 = .ok (.aload_n 0, 1) := by decide +kernel
theorem dX11_delay_18 : decode cX11_delay 18 = .ok (.iload_n 1, 1) := by decide +kernel
theorem dX11_delay_19 : decode cX11_delay 19 = .ok (.iload_n 2, 1) := by decide +kernel
theorem dX11_delay_20 : decode cX11_delay 20 = .ok (.invokevirtual 72, 3) := by decide +kernel
theorem dX11_delay_23 : decode cX11_delay 23 = .ok (.iadd, 1) := by decide +kernel
theorem dX11_delay_24 : decode cX11_delay 24 = .ok (.iload_n 3, 1) := by decide +kernel
theorem dX11_delay_25 : decode cX11_delay 25 = .ok (.iadd, 1) := by decide +kernel
theorem dX11_delay_26 : decode cX11_delay 26 = .ok (.iconst 2, 1) := by decide +kernel
theorem dX11_delay_27 : decode cX11_delay 27 = .ok (.isub, 1) := by decide +kernel
theorem dX11_delay_28 : decode cX11_delay 28 = .ok (.imul, 1) := by decide +kernel
theorem dX11_delay_29 : decode cX11_delay 29 = .ok (.iadd, 1) := by decide +kernel
theorem dX11_delay_30 : decode cX11_delay 30 = .ok (.ireturn, 1) := by decide +kernel
theorem dX11_stages_0 : decode cX11_stages 0 = .ok (.iconst 2, 1) := by decide +kernel
theorem dX11_stages_1 : decode cX11_stages 1 = .ok (.istore_n 3, 1) := by decide +kernel
theorem dX11_stages_2 : decode cX11_stages 2 = .ok (.aload_n 0, 1) := by decide +kernel
theorem dX11_stages_3 : decode cX11_stages 3 = .ok (.iload_n 1, 1) := by decide +kernel
theorem dX11_stages_4 : decode cX11_stages 4 = .ok (.iload_n 2, 1) := by decide +kernel
theorem dX11_stages_5 : decode cX11_stages 5 = .ok (.iconst 2, 1) := by decide +kernel
theorem dX11_stages_6 : decode cX11_stages 6 = .ok (.invokevirtual 88, 3) := by decide +kernel
theorem dX11_stages_9 : decode cX11_stages 9 = .ok (.istore 4, 2) := by decide +kernel
theorem dX11_stages_11 : decode cX11_stages 11 = .ok (.iconst 4, 1) := by decide +kernel
theorem dX11_stages_12 : decode cX11_stages 12 = .ok (.istore 5, 2) := by decide +kernel
theorem dX11_stages_14 : decode cX11_stages 14 = .ok (.iload 5, 2) := by decide +kernel
theorem dX11_stages_16 : decode cX11_stages 16 = .ok (.bipush 8, 2) := by decide +kernel
theorem dX11_stages_18 : decode cX11_stages 18 = .ok (.if_icmp .gt 49, 3) := by decide +kernel
theorem dX11_stages_21 : decode cX11_stages 21 = .ok (.aload_n 0, 1) := by decide +kernel
theorem dX11_stages_22 : decode cX11_stages 22 = .ok (.iload_n 1, 1) := by decide +kernel
theorem dX11_stages_23 : decode cX11_stages 23 = .ok (.iload_n 2, 1) := by decide +kernel
theorem dX11_stages_24 : decode cX11_stages 24 = .ok (.iload 5, 2) := by decide +kernel
theorem dX11_stages_26 : decode cX11_stages 26 = .ok (.invokevirtual 88, 3) := by decide +kernel
theorem dX11_stages_29 : decode cX11_stages 29 = .ok (.istore 6, 2) := by decide +kernel
theorem dX11_stages_31 : decode cX11_stages 31 = .ok (.iload 6, 2) := by decide +kernel
theorem dX11_stages_33 : decode cX11_stages 33 = .ok (.iload 4, 2) := by decide +kernel
theorem dX11_stages_35 : decode cX11_stages 35 = .ok (.if_icmp .ge 8, 3) := by decide +kernel
theorem dX11_stages_38 : decode cX11_stages 38 = .ok (.iload 5, 2) := by decide +kernel
theorem dX11_stages_40 : decode cX11_stages 40 = .ok (.goto 4, 3) := by decide +kernel
theorem dX11_stages_43 : decode cX11_stages 43 = .ok (.iload_n 3, 1) := by decide +kernel
theorem dX11_stages_44 : decode cX11_stages 44 = .ok (.istore_n 3, 1) := by decide +kernel
theorem dX11_stages_45 : decode cX11_stages 45 = .ok (.iload 6, 2) := by decide +kernel
theorem dX11_stages_47 : decode cX11_stages 47 = .ok (.iload 4, 2) := by decide +kernel
theorem dX11_stages_49 : decode cX11_stages 49 = .ok (.if_icmp .ge 8, 3) := by decide +kernel
theorem dX11_stages_52 : decode cX11_stages 52 = .ok (.iload 6, 2) := by decide +kernel
theorem dX11_stages_54 : decode cX11_stages 54 = .ok (.goto 5, 3) := by decide +kernel
theorem dX11_stages_57 : decode cX11_stages 57 = .ok (.iload 4, 2) := by decide +kernel
theorem dX11_stages_59 : decode cX11_stages 59 = .ok (.istore 4, 2) := by decide +kernel
theorem dX11_stages_61 : decode cX11_stages 61 = .ok (.iinc 5 2, 3) := by decide +kernel
theorem dX11_stages_64 : decode cX11_stages 64 = .ok (.goto (-50), 3) := by decide +kernel
theorem dX11_stages_67 : decode cX11_stages 67 = .ok (.iload_n 3, 1) := by decide +kernel
theorem dX11_stages_68 : decode cX11_stages 68 = .ok (.ireturn, 1) := by decide +kernel
theorem dX11_laysSizes_0 : decode cX11_laysSizes 0 = .ok (.aload_n 0, 1) := by decide +kernel
theorem dX11_laysSizes_1 : decode cX11_laysSizes 1 = .ok (.iload_n 1, 1) := by decide +kernel
theorem dX11_laysSizes_2 : decode cX11_laysSizes 2 = .ok (.iload_n 2, 1) := by decide +kernel
theorem dX11_laysSizes_3 : decode cX11_laysSizes 3 = .ok (.invokevirtual 91, 3) := by decide +kernel
theorem dX11_laysSizes_6 : decode cX11_laysSizes 6 = .ok (.istore_n 3, 1) := by decide +kernel
theorem dX11_laysSizes_7 : decode cX11_laysSizes 7 = .ok (.iconst 3, 1) := by decide +kernel
theorem dX11_laysSizes_8 : decode cX11_laysSizes 8 = .ok (.aload_n 0, 1) := by decide +kernel
theorem dX11_laysSizes_9 : decode cX11_laysSizes 9 = .ok (.iload_n 1, 1) := by decide +kernel
theorem dX11_laysSizes_10 : decode cX11_laysSizes 10 = .ok (.iload_n 2, 1) := by decide +kernel
theorem dX11_laysSizes_11 : decode cX11_laysSizes 11 = .ok (.iload_n 3, 1) := by decide +kernel
theorem dX11_laysSizes_12 : decode cX11_laysSizes 12 = .ok (.invokevirtual 84, 3) := by decide +kernel
theorem dX11_laysSizes_15 : decode cX11_laysSizes 15 = .ok (.imul, 1) := by decide +kernel
theorem dX11_laysSizes_16 : decode cX11_laysSizes 16 = .ok (.istore 4, 2) := by decide +kernel
theorem dX11_laysSizes_18 : decode cX11_laysSizes 18 = .ok (.aload_n 0, 1) := by decide +kernel
theorem dX11_laysSizes_19 : decode cX11_laysSizes 19 = .ok (.getfield 25, 3) := by decide +kernel
theorem dX11_laysSizes_22 : decode cX11_laysSizes 22 = .ok (.iload_n 3, 1) := by decide +kernel
theorem dX11_laysSizes_23 : decode cX11_laysSizes 23 = .ok (.iconst 1, 1) := by decide +kernel
theorem dX11_laysSizes_24 : decode cX11_laysSizes 24 = .ok (.isub, 1) := by decide +kernel
theorem dX11_laysSizes_25 : decode cX11_laysSizes 25 = .ok (.bipush 10, 2) := by decide +kernel
theorem dX11_laysSizes_27 : decode cX11_laysSizes 27 = .ok (.aload_n 0, 1) := by decide +kernel
theorem dX11_laysSizes_28 : decode cX11_laysSizes 28 = .ok (.iload_n 1, 1) := by decide +kernel
theorem dX11_laysSizes_29 : decode cX11_laysSizes 29 = .ok (.iload_n 2, 1) := by decide +kernel
theorem dX11_laysSizes_30 : decode cX11_laysSizes 30 = .ok (.invokevirtual 75, 3) := by decide +kernel
theorem dX11_laysSizes_33 : decode cX11_laysSizes 33 = .ok (.imul, 1) := by decide +kernel
theorem dX11_laysSizes_34 : decode cX11_laysSizes 34 = .ok (.aload_n 0, 1) := by decide +kernel
theorem dX11_laysSizes_35 : decode cX11_laysSizes 35 = .ok (.iload_n 1, 1) := by decide +kernel
theorem dX11_laysSizes_36 : decode cX11_laysSizes 36 = .ok (.iload_n 2, 1) := by decide +kernel
theorem dX11_laysSizes_37 : decode cX11_laysSizes 37 = .ok (.invokevirtual 72, 3) := by decide +kernel
theorem dX11_laysSizes_40 : decode cX11_laysSizes 40 = .ok (.iconst 2, 1) := by decide +kernel
theorem dX11_laysSizes_41 : decode cX11_laysSizes 41 = .ok (.iadd, 1) := by decide +kernel
theorem dX11_laysSizes_42 : decode cX11_laysSizes 42 = .ok (.imul, 1) := by decide +kernel
theorem dX11_laysSizes_43 : decode cX11_laysSizes 43 = .ok (.iload 4, 2) := by decide +kernel
theorem dX11_laysSizes_45 : decode cX11_laysSizes 45 = .ok (.invokestatic 69, 3) := by decide +kernel
theorem dX11_laysSizes_48 : decode cX11_laysSizes 48 = .ok (.iastore, 1) := by decide +kernel
theorem dX11_laysSizes_49 : decode cX11_laysSizes 49 = .ok (.iload_n 3, 1) := by decide +kernel
theorem dX11_laysSizes_50 : decode cX11_laysSizes 50 = .ok (.iconst 2, 1) := by decide +kernel
theorem dX11_laysSizes_51 : decode cX11_laysSizes 51 = .ok (.isub, 1) := by decide +kernel
theorem dX11_laysSizes_52 : decode cX11_laysSizes 52 = .ok (.istore 5, 2) := by decide +kernel
theorem dX11_laysSizes_54 : decode cX11_laysSizes 54 = .ok (.iload 5, 2) := by decide +kernel
theorem dX11_laysSizes_56 : decode cX11_laysSizes 56 = .ok (.ifCond .le 33, 3) := by decide +kernel
theorem dX11_laysSizes_59 : decode cX11_laysSizes 59 = .ok (.aload_n 0, 1) := by decide +kernel
theorem dX11_laysSizes_60 : decode cX11_laysSizes 60 = .ok (.getfield 25, 3) := by decide +kernel
theorem dX11_laysSizes_63 : decode cX11_laysSizes 63 = .ok (.iload 5, 2) := by decide +kernel
theorem dX11_laysSizes_65 : decode cX11_laysSizes 65 = .ok (.bipush 30, 2) := by decide +kernel
theorem dX11_laysSizes_67 : decode cX11_laysSizes 67 = .ok (.aload_n 0, 1) := by decide +kernel
theorem dX11_laysSizes_68 : decode cX11_laysSizes 68 = .ok (.getfield 25, 3) := by decide +kernel
theorem dX11_laysSizes_71 : decode cX11_laysSizes 71 = .ok (.iload 5, 2) := by decide +kernel
theorem dX11_laysSizes_73 : decode cX11_laysSizes 73 = .ok (.iconst 1, 1) := by decide +kernel
theorem dX11_laysSizes_74 : decode cX11_laysSizes 74 = .ok (.iadd, 1) := by decide +kernel
theorem dX11_laysSizes_75 : decode cX11_laysSizes 75 = .ok (.iaload, 1) := by decide +kernel
theorem dX11_laysSizes_76 : decode cX11_laysSizes 76 = .ok (.imul, 1) := by decide +kernel
theorem dX11_laysSizes_77 : decode cX11_laysSizes 77 = .ok (.iload 4, 2) := by decide +kernel
theorem dX11_laysSizes_79 : decode cX11_laysSizes 79 = .ok (.invokestatic 69, 3) := by decide +kernel
theorem dX11_laysSizes_82 : decode cX11_laysSizes 82 = .ok (.iastore, 1) := by decide +kernel
theorem dX11_laysSizes_83 : decode cX11_laysSizes 83 = .ok (.iinc 5 (-1), 3) := by decide +kernel
theorem dX11_laysSizes_86 : decode cX11_laysSizes 86 = .ok (.goto (-32), 3) := by decide +kernel
theorem dX11_laysSizes_89 : decode cX11_laysSizes 89 = .ok (.aload_n 0, 1) := by decide +kernel
theorem dX11_laysSizes_90 : decode cX11_laysSizes 90 = .ok (.getfield 25, 3) := by decide +kernel
theorem dX11_laysSizes_93 : decode cX11_laysSizes 93 = .ok (.iconst 1, 1) := by decide +kernel
theorem dX11_laysSizes_94 : decode cX11_laysSizes 94 = .ok (.iaload, 1) := by decide +kernel
theorem dX11_laysSizes_95 : decode cX11_laysSizes 95 = .ok (.aload_n 0, 1) := by decide +kernel
theorem dX11_laysSizes_96 : decode cX11_laysSizes 96 = .ok (.iload_n 1, 1) := by decide +kernel
theorem dX11_laysSizes_97 : decode cX11_laysSizes 97 = .ok (.iload_n 2, 1) := by decide +kernel
theorem dX11_laysSizes_98 : decode cX11_laysSizes 98 = .ok (.invokevirtual 48, 3) := by decide +kernel
theorem dX11_laysSizes_101 : decode cX11_laysSizes 101 = .ok (.imul, 1) := by decide +kernel
theorem dX11_laysSizes_102 : decode cX11_laysSizes 102 = .ok (.iconst 1, 1) := by decide +kernel
theorem dX11_laysSizes_103 : decode cX11_laysSizes 103 = .ok (.aload_n 0, 1) := by decide +kernel
theorem dX11_laysSizes_104 : decode cX11_laysSizes 104 = .ok (.iload_n 1, 1) := by decide +kernel
theorem dX11_laysSizes_105 : decode cX11_laysSizes 105 = .ok (.iload_n 2, 1) := by decide +kernel
theorem dX11_laysSizes_106 : decode cX11_laysSizes 106 = .ok (.invokevirtual 66, 3) := by decide +kernel
theorem dX11_laysSizes_109 : decode cX11_laysSizes 109 = .ok (.ishl, 1) := by decide +kernel
theorem dX11_laysSizes_110 : decode cX11_laysSizes 110 = .ok (.invokestatic 69, 3) := by decide +kernel
theorem dX11_laysSizes_113 : decode cX11_laysSizes 113 = .ok (.istore 5, 2) := by decide +kernel
theorem dX11_laysSizes_115 : decode cX11_laysSizes 115 = .ok (.aload_n 0, 1) := by decide +kernel
theorem dX11_laysSizes_116 : decode cX11_laysSizes 116 = .ok (.getfield 25, 3) := by decide +kernel
theorem dX11_laysSizes_119 : decode cX11_laysSizes 119 = .ok (.iconst 0, 1) := by decide +kernel
theorem dX11_laysSizes_120 : decode cX11_laysSizes 120 = .ok (.bipush 10, 2) := by decide +kernel
theorem dX11_laysSizes_122 : decode cX11_laysSizes 122 = .ok (.iload 5, 2) := by decide +kernel
theorem dX11_laysSizes_124 : decode cX11_laysSizes 124 = .ok (.imul, 1) := by decide +kernel
theorem dX11_laysSizes_125 : decode cX11_laysSizes 125 = .ok (.aload_n 0, 1) := by decide +kernel
theorem dX11_laysSizes_126 : decode cX11_laysSizes 126 = .ok (.iload_n 1, 1) := by decide +kernel
theorem dX11_laysSizes_127 : decode cX11_laysSizes 127 = .ok (.iload_n 2, 1) := by decide +kernel
theorem dX11_laysSizes_128 : decode cX11_laysSizes 128 = .ok (.invokevirtual 66, 3) := by decide +kernel
theorem dX11_laysSizes_131 : decode cX11_laysSizes 131 = .ok (.iconst 2, 1) := by decide +kernel
theorem dX11_laysSizes_132 : decode cX11_laysSizes 132 = .ok (.iadd, 1) := by decide +kernel
theorem dX11_laysSizes_133 : decode cX11_laysSizes 133 = .ok (.imul, 1) := by decide +kernel
theorem dX11_laysSizes_134 : decode cX11_laysSizes 134 = .ok (.iload 4, 2) := by decide +kernel
theorem dX11_laysSizes_136 : decode cX11_laysSizes 136 = .ok (.invokestatic 69, 3) := by decide +kernel
theorem dX11_laysSizes_139 : decode cX11_laysSizes 139 = .ok (.iastore, 1) := by decide +kernel
theorem dX11_laysSizes_140 : decode cX11_laysSizes 140 = .ok (.return_, 1) := by decide +kernel
theorem dX11_width_0 : decode cX11_width 0 = .ok (.aload_n 0, 1) := by decide +kernel
theorem dX11_width_1 : decode cX11_width 1 = .ok (.iload_n 1, 1) := by decide +kernel
theorem dX11_width_2 : decode cX11_width 2 = .ok (.iload_n 2, 1) := by decide +kernel
theorem dX11_width_3 : decode cX11_width 3 = .ok (.invokevirtual 94, 3) := by decide +kernel
theorem dX11_width_6 : decode cX11_width 6 = .ok (.aload_n 0, 1) := by decide +kernel
theorem dX11_width_7 : decode cX11_width 7 = .ok (.iload_n 1, 1) := by decide +kernel
theorem dX11_width_8 : decode cX11_width 8 = .ok (.iload_n 2, 1) := by decide +kernel
theorem dX11_width_9 : decode cX11_width 9 = .ok (.invokevirtual 75, 3) := by decide +kernel
theorem dX11_width_12 : decode cX11_width 12 = .ok (.aload_n 0, 1) := by decide +kernel
theorem dX11_width_13 : decode cX11_width 13 = .ok (.getfield 8, 3) := by decide +kernel
theorem dX11_width_16 : decode cX11_width 16 = .ok (.iload_n 1, 1) := by decide +kernel
theorem dX11_width_17 : decode cX11_width 17 = .ok (.iconst 5, 1) := by decide +kernel
theorem dX11_width_18 : decode cX11_width 18 = .ok (.iadd, 1) := by decide +kernel
theorem dX11_width_19 : decode cX11_width 19 = .ok (.iaload, 1) := by decide +kernel
theorem dX11_width_20 : decode cX11_width 20 = .ok (.imul, 1) := by decide +kernel
theorem dX11_width_21 : decode cX11_width 21 = .ok (.bipush 12, 2) := by decide +kernel
theorem dX11_width_23 : decode cX11_width 23 = .ok (.aload_n 0, 1) := by decide +kernel
theorem dX11_width_24 : decode cX11_width 24 = .ok (.iload_n 1, 1) := by decide +kernel
theorem dX11_width_25 : decode cX11_width 25 = .ok (.iload_n 2, 1) := by decide +kernel
theorem dX11_width_26 : decode cX11_width 26 = .ok (.invokevirtual 63, 3) := by decide +kernel
theorem dX11_width_29 : decode cX11_width 29 = .ok (.imul, 1) := by decide +kernel
theorem dX11_width_30 : decode cX11_width 30 = .ok (.iadd, 1) := by decide +kernel
theorem dX11_width_31 : decode cX11_width 31 = .ok (.aload_n 0, 1) := by decide +kernel
theorem dX11_width_32 : decode cX11_width 32 = .ok (.getfield 25, 3) := by decide +kernel
theorem dX11_width_35 : decode cX11_width 35 = .ok (.aload_n 0, 1) := by decide +kernel
theorem dX11_width_36 : decode cX11_width 36 = .ok (.iload_n 1, 1) := by decide +kernel
theorem dX11_width_37 : decode cX11_width 37 = .ok (.iload_n 2, 1) := by decide +kernel
theorem dX11_width_38 : decode cX11_width 38 = .ok (.invokevirtual 91, 3) := by decide +kernel
theorem dX11_width_41 : decode cX11_width 41 = .ok (.iconst 1, 1) := by decide +kernel
theorem dX11_width_42 : decode cX11_width 42 = .ok (.isub, 1) := by decide +kernel
theorem dX11_width_43 : decode cX11_width 43 = .ok (.iaload, 1) := by decide +kernel
theorem dX11_width_44 : decode cX11_width 44 = .ok (.iadd, 1) := by decide +kernel
theorem dX11_width_45 : decode cX11_width 45 = .ok (.ireturn, 1) := by decide +kernel
theorem dX11_height_0 : decode cX11_height 0 = .ok (.aload_n 0, 1) := by decide +kernel
theorem dX11_height_1 : decode cX11_height 1 = .ok (.iload_n 1, 1) := by decide +kernel
theorem dX11_height_2 : decode cX11_height 2 = .ok (.iload_n 2, 1) := by decide +kernel
theorem dX11_height_3 : decode cX11_height 3 = .ok (.invokevirtual 98, 3) := by decide +kernel
theorem dX11_height_6 : decode cX11_height 6 = .ok (.aload_n 0, 1) := by decide +kernel
theorem dX11_height_7 : decode cX11_height 7 = .ok (.getfield 8, 3) := by decide +kernel
theorem dX11_height_10 : decode cX11_height 10 = .ok (.iload_n 1, 1) := by decide +kernel
theorem dX11_height_11 : decode cX11_height 11 = .ok (.bipush 6, 2) := by decide +kernel
theorem dX11_height_13 : decode cX11_height 13 = .ok (.iadd, 1) := by decide +kernel
theorem dX11_height_14 : decode cX11_height 14 = .ok (.iaload, 1) := by decide +kernel
theorem dX11_height_15 : decode cX11_height 15 = .ok (.imul, 1) := by decide +kernel
theorem dX11_height_16 : decode cX11_height 16 = .ok (.bipush 30, 2) := by decide +kernel
theorem dX11_height_18 : decode cX11_height 18 = .ok (.iadd, 1) := by decide +kernel
theorem dX11_height_19 : decode cX11_height 19 = .ok (.bipush 8, 2) := by decide +kernel
theorem dX11_height_21 : decode cX11_height 21 = .ok (.iload_n 2, 1) := by decide +kernel
theorem dX11_height_22 : decode cX11_height 22 = .ok (.invokestatic 59, 3) := by decide +kernel
theorem dX11_height_25 : decode cX11_height 25 = .ok (.imul, 1) := by decide +kernel
theorem dX11_height_26 : decode cX11_height 26 = .ok (.iadd, 1) := by decide +kernel
theorem dX11_height_27 : decode cX11_height 27 = .ok (.ireturn, 1) := by decide +kernel
theorem dX11_wire_0 : decode cX11_wire 0 = .ok (.aload_n 0, 1) := by decide +kernel
theorem dX11_wire_1 : decode cX11_wire 1 = .ok (.iload_n 1, 1) := by decide +kernel
theorem dX11_wire_2 : decode cX11_wire 2 = .ok (.iload_n 2, 1) := by decide +kernel
theorem dX11_wire_3 : decode cX11_wire 3 = .ok (.invokevirtual 75, 3) := by decide +kernel
theorem dX11_wire_6 : decode cX11_wire 6 = .ok (.aload_n 0, 1) := by decide +kernel
theorem dX11_wire_7 : decode cX11_wire 7 = .ok (.iload_n 1, 1) := by decide +kernel
theorem dX11_wire_8 : decode cX11_wire 8 = .ok (.iload_n 2, 1) := by decide +kernel
theorem dX11_wire_9 : decode cX11_wire 9 = .ok (.invokevirtual 75, 3) := by decide +kernel
theorem dX11_wire_12 : decode cX11_wire 12 = .ok (.imul, 1) := by decide +kernel
theorem dX11_wire_13 : decode cX11_wire 13 = .ok (.bipush 20, 2) := by decide +kernel
theorem dX11_wire_15 : decode cX11_wire 15 = .ok (.idiv, 1) := by decide +kernel
theorem dX11_wire_16 : decode cX11_wire 16 = .ok (.ireturn, 1) := by decide +kernel
theorem dX11_fall_0 : decode cX11_fall 0 = .ok (.iconst 3, 1) := by decide +kernel
theorem dX11_fall_1 : decode cX11_fall 1 = .ok (.aload_n 0, 1) := by decide +kernel
theorem dX11_fall_2 : decode cX11_fall 2 = .ok (.iload_n 1, 1) := by decide +kernel
theorem dX11_fall_3 : decode cX11_fall 3 = .ok (.iload_n 2, 1) := by decide +kernel
theorem dX11_fall_4 : decode cX11_fall 4 = .ok (.invokevirtual 98, 3) := by decide +kernel
theorem dX11_fall_7 : decode cX11_fall 7 = .ok (.imul, 1) := by decide +kernel
theorem dX11_fall_8 : decode cX11_fall 8 = .ok (.ireturn, 1) := by decide +kernel
theorem dX11_common_0 : decode cX11_common 0 = .ok (.aload_n 0, 1) := by decide +kernel
theorem dX11_common_1 : decode cX11_common 1 = .ok (.iload_n 1, 1) := by decide +kernel
theorem dX11_common_2 : decode cX11_common 2 = .ok (.iload_n 2, 1) := by decide +kernel
theorem dX11_common_3 : decode cX11_common 3 = .ok (.aload_n 0, 1) := by decide +kernel
theorem dX11_common_4 : decode cX11_common 4 = .ok (.iload_n 1, 1) := by decide +kernel
theorem dX11_common_5 : decode cX11_common 5 = .ok (.iload_n 2, 1) := by decide +kernel
theorem dX11_common_6 : decode cX11_common 6 = .ok (.invokevirtual 91, 3) := by decide +kernel
theorem dX11_common_9 : decode cX11_common 9 = .ok (.invokevirtual 88, 3) := by decide +kernel
theorem dX11_common_12 : decode cX11_common 12 = .ok (.aload_n 0, 1) := by decide +kernel
theorem dX11_common_13 : decode cX11_common 13 = .ok (.iload_n 1, 1) := by decide +kernel
theorem dX11_common_14 : decode cX11_common 14 = .ok (.iload_n 2, 1) := by decide +kernel
theorem dX11_common_15 : decode cX11_common 15 = .ok (.invokevirtual 101, 3) := by decide +kernel
theorem dX11_common_18 : decode cX11_common 18 = .ok (.iadd, 1) := by decide +kernel
theorem dX11_common_19 : decode cX11_common 19 = .ok (.bipush 20, 2) := by decide +kernel
theorem dX11_common_21 : decode cX11_common 21 = .ok (.iadd, 1) := by decide +kernel
theorem dX11_common_22 : decode cX11_common 22 = .ok (.iconst 5, 1) := by decide +kernel
theorem dX11_common_23 : decode cX11_common 23 = .ok (.iload_n 2, 1) := by decide +kernel
theorem dX11_common_24 : decode cX11_common 24 = .ok (.invokestatic 59, 3) := by decide +kernel
theorem dX11_common_27 : decode cX11_common 27 = .ok (.imul, 1) := by decide +kernel
theorem dX11_common_28 : decode cX11_common 28 = .ok (.iadd, 1) := by decide +kernel
theorem dX11_common_29 : decode cX11_common 29 = .ok (.ireturn, 1) := by decide +kernel
theorem dX11_replica_0 : decode cX11_replica 0 = .ok (.bipush 40, 2) := by decide +kernel
theorem dX11_replica_2 : decode cX11_replica 2 = .ok (.bipush 30, 2) := by decide +kernel
theorem dX11_replica_4 : decode cX11_replica 4 = .ok (.aload_n 0, 1) := by decide +kernel
theorem dX11_replica_5 : decode cX11_replica 5 = .ok (.iload_n 1, 1) := by decide +kernel
theorem dX11_replica_6 : decode cX11_replica 6 = .ok (.iload_n 2, 1) := by decide +kernel
theorem dX11_replica_7 : decode cX11_replica 7 = .ok (.invokevirtual 98, 3) := by decide +kernel
theorem dX11_replica_10 : decode cX11_replica 10 = .ok (.imul, 1) := by decide +kernel
theorem dX11_replica_11 : decode cX11_replica 11 = .ok (.iload_n 3, 1) := by decide +kernel
theorem dX11_replica_12 : decode cX11_replica 12 = .ok (.idiv, 1) := by decide +kernel
theorem dX11_replica_13 : decode cX11_replica 13 = .ok (.iadd, 1) := by decide +kernel
theorem dX11_replica_14 : decode cX11_replica 14 = .ok (.ireturn, 1) := by decide +kernel
theorem dX11_pulls_0 : decode cX11_pulls 0 = .ok (.iconst 1, 1) := by decide +kernel
theorem dX11_pulls_1 : decode cX11_pulls 1 = .ok (.istore_n 3, 1) := by decide +kernel
theorem dX11_pulls_2 : decode cX11_pulls 2 = .ok (.iconst 2, 1) := by decide +kernel
theorem dX11_pulls_3 : decode cX11_pulls 3 = .ok (.istore 4, 2) := by decide +kernel
theorem dX11_pulls_5 : decode cX11_pulls 5 = .ok (.iload 4, 2) := by decide +kernel
theorem dX11_pulls_7 : decode cX11_pulls 7 = .ok (.bipush 16, 2) := by decide +kernel
theorem dX11_pulls_9 : decode cX11_pulls 9 = .ok (.if_icmp .gt 49, 3) := by decide +kernel
theorem dX11_pulls_12 : decode cX11_pulls 12 = .ok (.aload_n 0, 1) := by decide +kernel
theorem dX11_pulls_13 : decode cX11_pulls 13 = .ok (.iload_n 1, 1) := by decide +kernel
theorem dX11_pulls_14 : decode cX11_pulls 14 = .ok (.iload_n 2, 1) := by decide +kernel
theorem dX11_pulls_15 : decode cX11_pulls 15 = .ok (.iload 4, 2) := by decide +kernel
theorem dX11_pulls_17 : decode cX11_pulls 17 = .ok (.invokevirtual 104, 3) := by decide +kernel
theorem dX11_pulls_20 : decode cX11_pulls 20 = .ok (.bipush 100, 2) := by decide +kernel
theorem dX11_pulls_22 : decode cX11_pulls 22 = .ok (.imul, 1) := by decide +kernel
theorem dX11_pulls_23 : decode cX11_pulls 23 = .ok (.aload_n 0, 1) := by decide +kernel
theorem dX11_pulls_24 : decode cX11_pulls 24 = .ok (.iload_n 1, 1) := by decide +kernel
theorem dX11_pulls_25 : decode cX11_pulls 25 = .ok (.iload_n 2, 1) := by decide +kernel
theorem dX11_pulls_26 : decode cX11_pulls 26 = .ok (.invokevirtual 107, 3) := by decide +kernel
theorem dX11_pulls_29 : decode cX11_pulls 29 = .ok (.bipush 100, 2) := by decide +kernel
theorem dX11_pulls_31 : decode cX11_pulls 31 = .ok (.aload_n 0, 1) := by decide +kernel
theorem dX11_pulls_32 : decode cX11_pulls 32 = .ok (.getfield 8, 3) := by decide +kernel
theorem dX11_pulls_35 : decode cX11_pulls 35 = .ok (.iload_n 1, 1) := by decide +kernel
theorem dX11_pulls_36 : decode cX11_pulls 36 = .ok (.bipush 7, 2) := by decide +kernel
theorem dX11_pulls_38 : decode cX11_pulls 38 = .ok (.iadd, 1) := by decide +kernel
theorem dX11_pulls_39 : decode cX11_pulls 39 = .ok (.iaload, 1) := by decide +kernel
theorem dX11_pulls_40 : decode cX11_pulls 40 = .ok (.iadd, 1) := by decide +kernel
theorem dX11_pulls_41 : decode cX11_pulls 41 = .ok (.imul, 1) := by decide +kernel
theorem dX11_pulls_42 : decode cX11_pulls 42 = .ok (.if_icmp .lt 8, 3) := by decide +kernel
theorem dX11_pulls_45 : decode cX11_pulls 45 = .ok (.iload 4, 2) := by decide +kernel
theorem dX11_pulls_47 : decode cX11_pulls 47 = .ok (.goto 4, 3) := by decide +kernel
theorem dX11_pulls_50 : decode cX11_pulls 50 = .ok (.iload_n 3, 1) := by decide +kernel
theorem dX11_pulls_51 : decode cX11_pulls 51 = .ok (.istore_n 3, 1) := by decide +kernel
theorem dX11_pulls_52 : decode cX11_pulls 52 = .ok (.iinc 4 1, 3) := by decide +kernel
theorem dX11_pulls_55 : decode cX11_pulls 55 = .ok (.goto (-50), 3) := by decide +kernel
theorem dX11_pulls_58 : decode cX11_pulls 58 = .ok (.iload_n 3, 1) := by decide +kernel
theorem dX11_pulls_59 : decode cX11_pulls 59 = .ok (.ireturn, 1) := by decide +kernel
theorem dX11_cycle_0 : decode cX11_cycle 0 = .ok (.aload_n 0, 1) := by decide +kernel
theorem dX11_cycle_1 : decode cX11_cycle 1 = .ok (.iload_n 1, 1) := by decide +kernel
theorem dX11_cycle_2 : decode cX11_cycle 2 = .ok (.iload_n 2, 1) := by decide +kernel
theorem dX11_cycle_3 : decode cX11_cycle 3 = .ok (.invokevirtual 110, 3) := by decide +kernel
theorem dX11_cycle_6 : decode cX11_cycle 6 = .ok (.aload_n 0, 1) := by decide +kernel
theorem dX11_cycle_7 : decode cX11_cycle 7 = .ok (.iload_n 1, 1) := by decide +kernel
theorem dX11_cycle_8 : decode cX11_cycle 8 = .ok (.iload_n 2, 1) := by decide +kernel
theorem dX11_cycle_9 : decode cX11_cycle 9 = .ok (.aload_n 0, 1) := by decide +kernel
theorem dX11_cycle_10 : decode cX11_cycle 10 = .ok (.iload_n 1, 1) := by decide +kernel
theorem dX11_cycle_11 : decode cX11_cycle 11 = .ok (.iload_n 2, 1) := by decide +kernel
theorem dX11_cycle_12 : decode cX11_cycle 12 = .ok (.invokevirtual 113, 3) := by decide +kernel
theorem dX11_cycle_15 : decode cX11_cycle 15 = .ok (.invokevirtual 104, 3) := by decide +kernel
theorem dX11_cycle_18 : decode cX11_cycle 18 = .ok (.iadd, 1) := by decide +kernel
theorem dX11_cycle_19 : decode cX11_cycle 19 = .ok (.ireturn, 1) := by decide +kernel
theorem dX11_cost_0 : decode cX11_cost 0 = .ok (.aload_n 0, 1) := by decide +kernel
theorem dX11_cost_1 : decode cX11_cost 1 = .ok (.iload_n 1, 1) := by decide +kernel
theorem dX11_cost_2 : decode cX11_cost 2 = .ok (.iload_n 2, 1) := by decide +kernel
theorem dX11_cost_3 : decode cX11_cost 3 = .ok (.invokevirtual 116, 3) := by decide +kernel
theorem dX11_cost_6 : decode cX11_cost 6 = .ok (.aload_n 0, 1) := by decide +kernel
theorem dX11_cost_7 : decode cX11_cost 7 = .ok (.iload_n 1, 1) := by decide +kernel
theorem dX11_cost_8 : decode cX11_cost 8 = .ok (.iload_n 2, 1) := by decide +kernel
theorem dX11_cost_9 : decode cX11_cost 9 = .ok (.invokevirtual 119, 3) := by decide +kernel
theorem dX11_cost_12 : decode cX11_cost 12 = .ok (.isub, 1) := by decide +kernel
theorem dX11_cost_13 : decode cX11_cost 13 = .ok (.istore 4, 2) := by decide +kernel
theorem dX11_cost_15 : decode cX11_cost 15 = .ok (.iload_n 3, 1) := by decide +kernel
theorem dX11_cost_16 : decode cX11_cost 16 = .ok (.ifCond .ne 19, 3) := by decide +kernel
theorem dX11_cost_19 : decode cX11_cost 19 = .ok (.aload_n 0, 1) := by decide +kernel
theorem dX11_cost_20 : decode cX11_cost 20 = .ok (.iload_n 1, 1) := by decide +kernel
theorem dX11_cost_21 : decode cX11_cost 21 = .ok (.iload_n 2, 1) := by decide +kernel
theorem dX11_cost_22 : decode cX11_cost 22 = .ok (.invokevirtual 116, 3) := by decide +kernel
theorem dX11_cost_25 : decode cX11_cost 25 = .ok (.aload_n 0, 1) := by decide +kernel
theorem dX11_cost_26 : decode cX11_cost 26 = .ok (.iload_n 1, 1) := by decide +kernel
theorem dX11_cost_27 : decode cX11_cost 27 = .ok (.iload_n 2, 1) := by decide +kernel
theorem dX11_cost_28 : decode cX11_cost 28 = .ok (.invokevirtual 119, 3) := by decide +kernel
theorem dX11_cost_31 : decode cX11_cost 31 = .ok (.imul, 1) := by decide +kernel
theorem dX11_cost_32 : decode cX11_cost 32 = .ok (.goto 30, 3) := by decide +kernel
theorem dX11_cost_35 : decode cX11_cost 35 = .ok (.iload_n 3, 1) := by decide +kernel
theorem dX11_cost_36 : decode cX11_cost 36 = .ok (.iconst 1, 1) := by decide +kernel
theorem dX11_cost_37 : decode cX11_cost 37 = .ok (.if_icmp .ne 12, 3) := by decide +kernel
theorem dX11_cost_40 : decode cX11_cost 40 = .ok (.aload_n 0, 1) := by decide +kernel
theorem dX11_cost_41 : decode cX11_cost 41 = .ok (.iload_n 1, 1) := by decide +kernel
theorem dX11_cost_42 : decode cX11_cost 42 = .ok (.iload_n 2, 1) := by decide +kernel
theorem dX11_cost_43 : decode cX11_cost 43 = .ok (.invokevirtual 122, 3) := by decide +kernel
theorem dX11_cost_46 : decode cX11_cost 46 = .ok (.goto 16, 3) := by decide +kernel
theorem dX11_cost_49 : decode cX11_cost 49 = .ok (.iload 4, 2) := by decide +kernel
theorem dX11_cost_51 : decode cX11_cost 51 = .ok (.ifCond .ge 9, 3) := by decide +kernel
theorem dX11_cost_54 : decode cX11_cost 54 = .ok (.iload 4, 2) := by decide +kernel
theorem dX11_cost_56 : decode cX11_cost 56 = .ok (.ineg, 1) := by decide +kernel
theorem dX11_cost_57 : decode cX11_cost 57 = .ok (.goto 5, 3) := by decide +kernel
theorem dX11_cost_60 : decode cX11_cost 60 = .ok (.iload 4, 2) := by decide +kernel
theorem dX11_cost_62 : decode cX11_cost 62 = .ok (.ireturn, 1) := by decide +kernel
theorem dX11_wishedBy_0 : decode cX11_wishedBy 0 = .ok (.iconst (-1), 1) := by decide +kernel
theorem dX11_wishedBy_1 : decode cX11_wishedBy 1 = .ok (.istore_n 3, 1) := by decide +kernel
theorem dX11_wishedBy_2 : decode cX11_wishedBy 2 = .ok (.iconst 0, 1) := by decide +kernel
theorem dX11_wishedBy_3 : decode cX11_wishedBy 3 = .ok (.istore 4, 2) := by decide +kernel
theorem dX11_wishedBy_5 : decode cX11_wishedBy 5 = .ok (.iconst 1, 1) := by decide +kernel
theorem dX11_wishedBy_6 : decode cX11_wishedBy 6 = .ok (.istore 5, 2) := by decide +kernel
theorem dX11_wishedBy_8 : decode cX11_wishedBy 8 = .ok (.iload 5, 2) := by decide +kernel
theorem dX11_wishedBy_10 : decode cX11_wishedBy 10 = .ok (.bipush 8, 2) := by decide +kernel
theorem dX11_wishedBy_12 : decode cX11_wishedBy 12 = .ok (.if_icmp .gt 57, 3) := by decide +kernel
theorem dX11_wishedBy_15 : decode cX11_wishedBy 15 = .ok (.aload_n 0, 1) := by decide +kernel
theorem dX11_wishedBy_16 : decode cX11_wishedBy 16 = .ok (.iload_n 1, 1) := by decide +kernel
theorem dX11_wishedBy_17 : decode cX11_wishedBy 17 = .ok (.iload 5, 2) := by decide +kernel
theorem dX11_wishedBy_19 : decode cX11_wishedBy 19 = .ok (.invokevirtual 125, 3) := by decide +kernel
theorem dX11_wishedBy_22 : decode cX11_wishedBy 22 = .ok (.ifCond .ne 6, 3) := by decide +kernel
theorem dX11_wishedBy_25 : decode cX11_wishedBy 25 = .ok (.goto 35, 3) := by decide +kernel
theorem dX11_wishedBy_28 : decode cX11_wishedBy 28 = .ok (.aload_n 0, 1) := by decide +kernel
theorem dX11_wishedBy_29 : decode cX11_wishedBy 29 = .ok (.iload_n 1, 1) := by decide +kernel
theorem dX11_wishedBy_30 : decode cX11_wishedBy 30 = .ok (.iload 5, 2) := by decide +kernel
theorem dX11_wishedBy_32 : decode cX11_wishedBy 32 = .ok (.iload_n 2, 1) := by decide +kernel
theorem dX11_wishedBy_33 : decode cX11_wishedBy 33 = .ok (.invokevirtual 129, 3) := by decide +kernel
theorem dX11_wishedBy_36 : decode cX11_wishedBy 36 = .ok (.istore 6, 2) := by decide +kernel
theorem dX11_wishedBy_38 : decode cX11_wishedBy 38 = .ok (.iload_n 3, 1) := by decide +kernel
theorem dX11_wishedBy_39 : decode cX11_wishedBy 39 = .ok (.iconst (-1), 1) := by decide +kernel
theorem dX11_wishedBy_40 : decode cX11_wishedBy 40 = .ok (.if_icmp .eq 13, 3) := by decide +kernel
theorem dX11_wishedBy_43 : decode cX11_wishedBy 43 = .ok (.iload 6, 2) := by decide +kernel
theorem dX11_wishedBy_45 : decode cX11_wishedBy 45 = .ok (.iload 4, 2) := by decide +kernel
theorem dX11_wishedBy_47 : decode cX11_wishedBy 47 = .ok (.if_icmp .lt 6, 3) := by decide +kernel
theorem dX11_wishedBy_50 : decode cX11_wishedBy 50 = .ok (.goto 10, 3) := by decide +kernel
theorem dX11_wishedBy_53 : decode cX11_wishedBy 53 = .ok (.iload 5, 2) := by decide +kernel
theorem dX11_wishedBy_55 : decode cX11_wishedBy 55 = .ok (.istore_n 3, 1) := by decide +kernel
theorem dX11_wishedBy_56 : decode cX11_wishedBy 56 = .ok (.iload 6, 2) := by decide +kernel
theorem dX11_wishedBy_58 : decode cX11_wishedBy 58 = .ok (.istore 4, 2) := by decide +kernel
theorem dX11_wishedBy_60 : decode cX11_wishedBy 60 = .ok (.iload 5, 2) := by decide +kernel
theorem dX11_wishedBy_62 : decode cX11_wishedBy 62 = .ok (.iconst 2, 1) := by decide +kernel
theorem dX11_wishedBy_63 : decode cX11_wishedBy 63 = .ok (.imul, 1) := by decide +kernel
theorem dX11_wishedBy_64 : decode cX11_wishedBy 64 = .ok (.istore 5, 2) := by decide +kernel
theorem dX11_wishedBy_66 : decode cX11_wishedBy 66 = .ok (.goto (-58), 3) := by decide +kernel
theorem dX11_wishedBy_69 : decode cX11_wishedBy 69 = .ok (.iload_n 3, 1) := by decide +kernel
theorem dX11_wishedBy_70 : decode cX11_wishedBy 70 = .ok (.ireturn, 1) := by decide +kernel
theorem dX11_mux_0 : decode cX11_mux 0 = .ok (.aload_n 0, 1) := by decide +kernel
theorem dX11_mux_1 : decode cX11_mux 1 = .ok (.getfield 8, 3) := by decide +kernel
theorem dX11_mux_4 : decode cX11_mux 4 = .ok (.iload_n 1, 1) := by decide +kernel
theorem dX11_mux_5 : decode cX11_mux 5 = .ok (.iconst 2, 1) := by decide +kernel
theorem dX11_mux_6 : decode cX11_mux 6 = .ok (.iadd, 1) := by decide +kernel
theorem dX11_mux_7 : decode cX11_mux 7 = .ok (.iaload, 1) := by decide +kernel
theorem dX11_mux_8 : decode cX11_mux 8 = .ok (.ifCond .le 14, 3) := by decide +kernel
theorem dX11_mux_11 : decode cX11_mux 11 = .ok (.aload_n 0, 1) := by decide +kernel
theorem dX11_mux_12 : decode cX11_mux 12 = .ok (.getfield 8, 3) := by decide +kernel
theorem dX11_mux_15 : decode cX11_mux 15 = .ok (.iload_n 1, 1) := by decide +kernel
theorem dX11_mux_16 : decode cX11_mux 16 = .ok (.iconst 2, 1) := by decide +kernel
theorem dX11_mux_17 : decode cX11_mux 17 = .ok (.iadd, 1) := by decide +kernel
theorem dX11_mux_18 : decode cX11_mux 18 = .ok (.iaload, 1) := by decide +kernel
theorem dX11_mux_19 : decode cX11_mux 19 = .ok (.goto 17, 3) := by decide +kernel
theorem dX11_mux_22 : decode cX11_mux 22 = .ok (.aload_n 0, 1) := by decide +kernel
theorem dX11_mux_23 : decode cX11_mux 23 = .ok (.iload_n 1, 1) := by decide +kernel
theorem dX11_mux_24 : decode cX11_mux 24 = .ok (.aload_n 0, 1) := by decide +kernel
theorem dX11_mux_25 : decode cX11_mux 25 = .ok (.getfield 8, 3) := by decide +kernel
theorem dX11_mux_28 : decode cX11_mux 28 = .ok (.iload_n 1, 1) := by decide +kernel
theorem dX11_mux_29 : decode cX11_mux 29 = .ok (.bipush 8, 2) := by decide +kernel
theorem dX11_mux_31 : decode cX11_mux 31 = .ok (.iadd, 1) := by decide +kernel
theorem dX11_mux_32 : decode cX11_mux 32 = .ok (.iaload, 1) := by decide +kernel
theorem dX11_mux_33 : decode cX11_mux 33 = .ok (.invokevirtual 132, 3) := by decide +kernel
theorem dX11_mux_36 : decode cX11_mux 36 = .ok (.ireturn, 1) := by decide +kernel
theorem dX11_badOf_0 : decode cX11_badOf 0 = .ok (.iload_n 0, 1) := by decide +kernel
theorem dX11_badOf_1 : decode cX11_badOf 1 = .ok (.bipush 10, 2) := by decide +kernel
theorem dX11_badOf_3 : decode cX11_badOf 3 = .ok (.iadd, 1) := by decide +kernel
theorem dX11_badOf_4 : decode cX11_badOf 4 = .ok (.iconst 3, 1) := by decide +kernel
theorem dX11_badOf_5 : decode cX11_badOf 5 = .ok (.iload_n 1, 1) := by decide +kernel
theorem dX11_badOf_6 : decode cX11_badOf 6 = .ok (.imul, 1) := by decide +kernel
theorem dX11_badOf_7 : decode cX11_badOf 7 = .ok (.iadd, 1) := by decide +kernel
theorem dX11_badOf_8 : decode cX11_badOf 8 = .ok (.ireturn, 1) := by decide +kernel
theorem dX11_unfit_0 : decode cX11_unfit 0 = .ok (.aload_n 0, 1) := by decide +kernel
theorem dX11_unfit_1 : decode cX11_unfit 1 = .ok (.getfield 8, 3) := by decide +kernel
theorem dX11_unfit_4 : decode cX11_unfit 4 = .ok (.iload_n 1, 1) := by decide +kernel
theorem dX11_unfit_5 : decode cX11_unfit 5 = .ok (.iconst 2, 1) := by decide +kernel
theorem dX11_unfit_6 : decode cX11_unfit 6 = .ok (.iadd, 1) := by decide +kernel
theorem dX11_unfit_7 : decode cX11_unfit 7 = .ok (.iaload, 1) := by decide +kernel
theorem dX11_unfit_8 : decode cX11_unfit 8 = .ok (.ifCond .le 21, 3) := by decide +kernel
theorem dX11_unfit_11 : decode cX11_unfit 11 = .ok (.aload_n 0, 1) := by decide +kernel
theorem dX11_unfit_12 : decode cX11_unfit 12 = .ok (.iload_n 1, 1) := by decide +kernel
theorem dX11_unfit_13 : decode cX11_unfit 13 = .ok (.aload_n 0, 1) := by decide +kernel
theorem dX11_unfit_14 : decode cX11_unfit 14 = .ok (.getfield 8, 3) := by decide +kernel
theorem dX11_unfit_17 : decode cX11_unfit 17 = .ok (.iload_n 1, 1) := by decide +kernel
theorem dX11_unfit_18 : decode cX11_unfit 18 = .ok (.iconst 2, 1) := by decide +kernel
theorem dX11_unfit_19 : decode cX11_unfit 19 = .ok (.iadd, 1) := by decide +kernel
theorem dX11_unfit_20 : decode cX11_unfit 20 = .ok (.iaload, 1) := by decide +kernel
theorem dX11_unfit_21 : decode cX11_unfit 21 = .ok (.invokevirtual 125, 3) := by decide +kernel
theorem dX11_unfit_24 : decode cX11_unfit 24 = .ok (.ifCond .ne 5, 3) := by decide +kernel
theorem dX11_unfit_27 : decode cX11_unfit 27 = .ok (.iconst 5, 1) := by decide +kernel
theorem dX11_unfit_28 : decode cX11_unfit 28 = .ok (.ireturn, 1) := by decide +kernel
theorem dX11_unfit_29 : decode cX11_unfit 29 = .ok (.aload_n 0, 1) := by decide +kernel
theorem dX11_unfit_30 : decode cX11_unfit 30 = .ok (.iload_n 1, 1) := by decide +kernel
theorem dX11_unfit_31 : decode cX11_unfit 31 = .ok (.invokevirtual 135, 3) := by decide +kernel
theorem dX11_unfit_34 : decode cX11_unfit 34 = .ok (.istore_n 2, 1) := by decide +kernel
theorem dX11_unfit_35 : decode cX11_unfit 35 = .ok (.iconst 0, 1) := by decide +kernel
theorem dX11_unfit_36 : decode cX11_unfit 36 = .ok (.istore_n 3, 1) := by decide +kernel
theorem dX11_unfit_37 : decode cX11_unfit 37 = .ok (.iload_n 3, 1) := by decide +kernel
theorem dX11_unfit_38 : decode cX11_unfit 38 = .ok (.aload_n 0, 1) := by decide +kernel
theorem dX11_unfit_39 : decode cX11_unfit 39 = .ok (.getfield 8, 3) := by decide +kernel
theorem dX11_unfit_42 : decode cX11_unfit 42 = .ok (.iload_n 1, 1) := by decide +kernel
theorem dX11_unfit_43 : decode cX11_unfit 43 = .ok (.bipush 9, 2) := by decide +kernel
theorem dX11_unfit_45 : decode cX11_unfit 45 = .ok (.iadd, 1) := by decide +kernel
theorem dX11_unfit_46 : decode cX11_unfit 46 = .ok (.iaload, 1) := by decide +kernel
theorem dX11_unfit_47 : decode cX11_unfit 47 = .ok (.if_icmp .ge 52, 3) := by decide +kernel
theorem dX11_unfit_50 : decode cX11_unfit 50 = .ok (.aload_n 0, 1) := by decide +kernel
theorem dX11_unfit_51 : decode cX11_unfit 51 = .ok (.getfield 8, 3) := by decide +kernel
theorem dX11_unfit_54 : decode cX11_unfit 54 = .ok (.iload_n 1, 1) := by decide +kernel
theorem dX11_unfit_55 : decode cX11_unfit 55 = .ok (.iload_n 3, 1) := by decide +kernel
theorem dX11_unfit_56 : decode cX11_unfit 56 = .ok (.invokestatic 138, 3) := by decide +kernel
theorem dX11_unfit_59 : decode cX11_unfit 59 = .ok (.iaload, 1) := by decide +kernel
theorem dX11_unfit_60 : decode cX11_unfit 60 = .ok (.aload_n 0, 1) := by decide +kernel
theorem dX11_unfit_61 : decode cX11_unfit 61 = .ok (.iload_n 1, 1) := by decide +kernel
theorem dX11_unfit_62 : decode cX11_unfit 62 = .ok (.iload_n 2, 1) := by decide +kernel
theorem dX11_unfit_63 : decode cX11_unfit 63 = .ok (.invokevirtual 48, 3) := by decide +kernel
theorem dX11_unfit_66 : decode cX11_unfit 66 = .ok (.if_icmp .ge 24, 3) := by decide +kernel
theorem dX11_unfit_69 : decode cX11_unfit 69 = .ok (.aload_n 0, 1) := by decide +kernel
theorem dX11_unfit_70 : decode cX11_unfit 70 = .ok (.getfield 8, 3) := by decide +kernel
theorem dX11_unfit_73 : decode cX11_unfit 73 = .ok (.iload_n 1, 1) := by decide +kernel
theorem dX11_unfit_74 : decode cX11_unfit 74 = .ok (.iload_n 3, 1) := by decide +kernel
theorem dX11_unfit_75 : decode cX11_unfit 75 = .ok (.invokestatic 138, 3) := by decide +kernel
theorem dX11_unfit_78 : decode cX11_unfit 78 = .ok (.iconst 1, 1) := by decide +kernel
theorem dX11_unfit_79 : decode cX11_unfit 79 = .ok (.iadd, 1) := by decide +kernel
theorem dX11_unfit_80 : decode cX11_unfit 80 = .ok (.iaload, 1) := by decide +kernel
theorem dX11_unfit_81 : decode cX11_unfit 81 = .ok (.aload_n 0, 1) := by decide +kernel
theorem dX11_unfit_82 : decode cX11_unfit 82 = .ok (.iload_n 1, 1) := by decide +kernel
theorem dX11_unfit_83 : decode cX11_unfit 83 = .ok (.iload_n 2, 1) := by decide +kernel
theorem dX11_unfit_84 : decode cX11_unfit 84 = .ok (.invokevirtual 56, 3) := by decide +kernel
theorem dX11_unfit_87 : decode cX11_unfit 87 = .ok (.if_icmp .lt 6, 3) := by decide +kernel
theorem dX11_unfit_90 : decode cX11_unfit 90 = .ok (.bipush 6, 2) := by decide +kernel
theorem dX11_unfit_92 : decode cX11_unfit 92 = .ok (.ireturn, 1) := by decide +kernel
theorem dX11_unfit_93 : decode cX11_unfit 93 = .ok (.iinc 3 1, 3) := by decide +kernel
theorem dX11_unfit_96 : decode cX11_unfit 96 = .ok (.goto (-59), 3) := by decide +kernel
theorem dX11_unfit_99 : decode cX11_unfit 99 = .ok (.iconst 0, 1) := by decide +kernel
theorem dX11_unfit_100 : decode cX11_unfit 100 = .ok (.ireturn, 1) := by decide +kernel
theorem dX11_needs_0 : decode cX11_needs 0 = .ok (.aload_n 0, 1) := by decide +kernel
theorem dX11_needs_1 : decode cX11_needs 1 = .ok (.iconst 0, 1) := by decide +kernel
theorem dX11_needs_2 : decode cX11_needs 2 = .ok (.putfield 141, 3) := by decide +kernel
theorem dX11_needs_5 : decode cX11_needs 5 = .ok (.iconst 0, 1) := by decide +kernel
theorem dX11_needs_6 : decode cX11_needs 6 = .ok (.istore_n 3, 1) := by decide +kernel
theorem dX11_needs_7 : decode cX11_needs 7 = .ok (.iload_n 3, 1) := by decide +kernel
theorem dX11_needs_8 : decode cX11_needs 8 = .ok (.aload_n 0, 1) := by decide +kernel
theorem dX11_needs_9 : decode cX11_needs 9 = .ok (.getfield 8, 3) := by decide +kernel
theorem dX11_needs_12 : decode cX11_needs 12 = .ok (.bipush 9, 2) := by decide +kernel
theorem dX11_needs_14 : decode cX11_needs 14 = .ok (.iaload, 1) := by decide +kernel
theorem dX11_needs_15 : decode cX11_needs 15 = .ok (.if_icmp .ge 168, 3) := by decide +kernel
theorem dX11_needs_18 : decode cX11_needs 18 = .ok (.aload_n 0, 1) := by decide +kernel
theorem dX11_needs_19 : decode cX11_needs 19 = .ok (.getfield 8, 3) := by decide +kernel
theorem dX11_needs_22 : decode cX11_needs 22 = .ok (.iload_n 3, 1) := by decide +kernel
theorem dX11_needs_23 : decode cX11_needs 23 = .ok (.invokestatic 144, 3) := by decide +kernel
theorem dX11_needs_26 : decode cX11_needs 26 = .ok (.iaload, 1) := by decide +kernel
theorem dX11_needs_27 : decode cX11_needs 27 = .ok (.istore 4, 2) := by decide +kernel
theorem dX11_needs_29 : decode cX11_needs 29 = .ok (.aload_n 0, 1) := by decide +kernel
theorem dX11_needs_30 : decode cX11_needs 30 = .ok (.getfield 8, 3) := by decide +kernel
theorem dX11_needs_33 : decode cX11_needs 33 = .ok (.iload_n 3, 1) := by decide +kernel
theorem dX11_needs_34 : decode cX11_needs 34 = .ok (.invokestatic 144, 3) := by decide +kernel
theorem dX11_needs_37 : decode cX11_needs 37 = .ok (.iconst 1, 1) := by decide +kernel
theorem dX11_needs_38 : decode cX11_needs 38 = .ok (.iadd, 1) := by decide +kernel
theorem dX11_needs_39 : decode cX11_needs 39 = .ok (.iaload, 1) := by decide +kernel
theorem dX11_needs_40 : decode cX11_needs 40 = .ok (.istore 5, 2) := by decide +kernel
theorem dX11_needs_42 : decode cX11_needs 42 = .ok (.iload 5, 2) := by decide +kernel
theorem dX11_needs_44 : decode cX11_needs 44 = .ok (.iload_n 1, 1) := by decide +kernel
theorem dX11_needs_45 : decode cX11_needs 45 = .ok (.if_icmp .eq 9, 3) := by decide +kernel
theorem dX11_needs_48 : decode cX11_needs 48 = .ok (.iload 5, 2) := by decide +kernel
theorem dX11_needs_50 : decode cX11_needs 50 = .ok (.iload_n 2, 1) := by decide +kernel
theorem dX11_needs_51 : decode cX11_needs 51 = .ok (.if_icmp .ne 7, 3) := by decide +kernel
theorem dX11_needs_54 : decode cX11_needs 54 = .ok (.iconst 1, 1) := by decide +kernel
theorem dX11_needs_55 : decode cX11_needs 55 = .ok (.goto 4, 3) := by decide +kernel
theorem dX11_needs_58 : decode cX11_needs 58 = .ok (.iconst 0, 1) := by decide +kernel
theorem dX11_needs_59 : decode cX11_needs 59 = .ok (.istore 6, 2) := by decide +kernel
theorem dX11_needs_61 : decode cX11_needs 61 = .ok (.iconst 0, 1) := by decide +kernel
theorem dX11_needs_62 : decode cX11_needs 62 = .ok (.istore 7, 2) := by decide +kernel
theorem dX11_needs_64 : decode cX11_needs 64 = .ok (.iload 7, 2) := by decide +kernel
theorem dX11_needs_66 : decode cX11_needs 66 = .ok (.aload_n 0, 1) := by decide +kernel
theorem dX11_needs_67 : decode cX11_needs 67 = .ok (.getfield 141, 3) := by decide +kernel
theorem dX11_needs_70 : decode cX11_needs 70 = .ok (.if_icmp .ge 33, 3) := by decide +kernel
theorem dX11_needs_73 : decode cX11_needs 73 = .ok (.iload 6, 2) := by decide +kernel
theorem dX11_needs_75 : decode cX11_needs 75 = .ok (.ifCond .ne 15, 3) := by decide +kernel
theorem dX11_needs_78 : decode cX11_needs 78 = .ok (.aload_n 0, 1) := by decide +kernel
theorem dX11_needs_79 : decode cX11_needs 79 = .ok (.getfield 34, 3) := by decide +kernel
theorem dX11_needs_82 : decode cX11_needs 82 = .ok (.iload 7, 2) := by decide +kernel
theorem dX11_needs_84 : decode cX11_needs 84 = .ok (.iaload, 1) := by decide +kernel
theorem dX11_needs_85 : decode cX11_needs 85 = .ok (.iload 4, 2) := by decide +kernel
theorem dX11_needs_87 : decode cX11_needs 87 = .ok (.if_icmp .ne 7, 3) := by decide +kernel
theorem dX11_needs_90 : decode cX11_needs 90 = .ok (.iconst 1, 1) := by decide +kernel
theorem dX11_needs_91 : decode cX11_needs 91 = .ok (.goto 4, 3) := by decide +kernel
theorem dX11_needs_94 : decode cX11_needs 94 = .ok (.iconst 0, 1) := by decide +kernel
theorem dX11_needs_95 : decode cX11_needs 95 = .ok (.istore 6, 2) := by decide +kernel
theorem dX11_needs_97 : decode cX11_needs 97 = .ok (.iinc 7 1, 3) := by decide +kernel
theorem dX11_needs_100 : decode cX11_needs 100 = .ok (.goto (-36), 3) := by decide +kernel
theorem dX11_needs_103 : decode cX11_needs 103 = .ok (.iload 6, 2) := by decide +kernel
theorem dX11_needs_105 : decode cX11_needs 105 = .ok (.ifCond .eq 6, 3) := by decide +kernel
theorem dX11_needs_108 : decode cX11_needs 108 = .ok (.goto 69, 3) := by decide +kernel
theorem dX11_needs_111 : decode cX11_needs 111 = .ok (.aload_n 0, 1) := by decide +kernel
theorem dX11_needs_112 : decode cX11_needs 112 = .ok (.getfield 141, 3) := by decide +kernel
theorem dX11_needs_115 : decode cX11_needs 115 = .ok (.istore 7, 2) := by decide +kernel
theorem dX11_needs_117 : decode cX11_needs 117 = .ok (.iload 7, 2) := by decide +kernel
theorem dX11_needs_119 : decode cX11_needs 119 = .ok (.ifCond .le 39, 3) := by decide +kernel
theorem dX11_needs_122 : decode cX11_needs 122 = .ok (.aload_n 0, 1) := by decide +kernel
theorem dX11_needs_123 : decode cX11_needs 123 = .ok (.getfield 34, 3) := by decide +kernel
theorem dX11_needs_126 : decode cX11_needs 126 = .ok (.iload 7, 2) := by decide +kernel
theorem dX11_needs_128 : decode cX11_needs 128 = .ok (.iconst 1, 1) := by decide +kernel
theorem dX11_needs_129 : decode cX11_needs 129 = .ok (.isub, 1) := by decide +kernel
theorem dX11_needs_130 : decode cX11_needs 130 = .ok (.iaload, 1) := by decide +kernel
theorem dX11_needs_131 : decode cX11_needs 131 = .ok (.iload 4, 2) := by decide +kernel
theorem dX11_needs_133 : decode cX11_needs 133 = .ok (.if_icmp .le 25, 3) := by decide +kernel
theorem dX11_needs_136 : decode cX11_needs 136 = .ok (.aload_n 0, 1) := by decide +kernel
theorem dX11_needs_137 : decode cX11_needs 137 = .ok (.getfield 34, 3) := by decide +kernel
theorem dX11_needs_140 : decode cX11_needs 140 = .ok (.iload 7, 2) := by decide +kernel
theorem dX11_needs_142 : decode cX11_needs 142 = .ok (.aload_n 0, 1) := by decide +kernel
theorem dX11_needs_143 : decode cX11_needs 143 = .ok (.getfield 34, 3) := by decide +kernel
theorem dX11_needs_146 : decode cX11_needs 146 = .ok (.iload 7, 2) := by decide +kernel
theorem dX11_needs_148 : decode cX11_needs 148 = .ok (.iconst 1, 1) := by decide +kernel
theorem dX11_needs_149 : decode cX11_needs 149 = .ok (.isub, 1) := by decide +kernel
theorem dX11_needs_150 : decode cX11_needs 150 = .ok (.iaload, 1) := by decide +kernel
theorem dX11_needs_151 : decode cX11_needs 151 = .ok (.iastore, 1) := by decide +kernel
theorem dX11_needs_152 : decode cX11_needs 152 = .ok (.iinc 7 (-1), 3) := by decide +kernel
theorem dX11_needs_155 : decode cX11_needs 155 = .ok (.goto (-38), 3) := by decide +kernel
theorem dX11_needs_158 : decode cX11_needs 158 = .ok (.aload_n 0, 1) := by decide +kernel
theorem dX11_needs_159 : decode cX11_needs 159 = .ok (.getfield 34, 3) := by decide +kernel
theorem dX11_needs_162 : decode cX11_needs 162 = .ok (.iload 7, 2) := by decide +kernel
theorem dX11_needs_164 : decode cX11_needs 164 = .ok (.iload 4, 2) := by decide +kernel
theorem dX11_needs_166 : decode cX11_needs 166 = .ok (.iastore, 1) := by decide +kernel
theorem dX11_needs_167 : decode cX11_needs 167 = .ok (.aload_n 0, 1) := by decide +kernel
theorem dX11_needs_168 : decode cX11_needs 168 = .ok (.dup, 1) := by decide +kernel
theorem dX11_needs_169 : decode cX11_needs 169 = .ok (.getfield 141, 3) := by decide +kernel
theorem dX11_needs_172 : decode cX11_needs 172 = .ok (.iconst 1, 1) := by decide +kernel
theorem dX11_needs_173 : decode cX11_needs 173 = .ok (.iadd, 1) := by decide +kernel
theorem dX11_needs_174 : decode cX11_needs 174 = .ok (.putfield 141, 3) := by decide +kernel
theorem dX11_needs_177 : decode cX11_needs 177 = .ok (.iinc 3 1, 3) := by decide +kernel
theorem dX11_needs_180 : decode cX11_needs 180 = .ok (.goto (-173), 3) := by decide +kernel
theorem dX11_needs_183 : decode cX11_needs 183 = .ok (.return_, 1) := by decide +kernel
theorem dX11_badAt_0 : decode cX11_badAt 0 = .ok (.iconst 0, 1) := by decide +kernel
theorem dX11_badAt_1 : decode cX11_badAt 1 = .ok (.iload_n 0, 1) := by decide +kernel
theorem dX11_badAt_2 : decode cX11_badAt 2 = .ok (.invokestatic 138, 3) := by decide +kernel
theorem dX11_badAt_5 : decode cX11_badAt 5 = .ok (.ireturn, 1) := by decide +kernel
theorem dX11_isBetter_0 : decode cX11_isBetter 0 = .ok (.aload_n 0, 1) := by decide +kernel
theorem dX11_isBetter_1 : decode cX11_isBetter 1 = .ok (.getfield 147, 3) := by decide +kernel
theorem dX11_isBetter_4 : decode cX11_isBetter 4 = .ok (.ifCond .ne 5, 3) := by decide +kernel
theorem dX11_isBetter_7 : decode cX11_isBetter 7 = .ok (.iconst 1, 1) := by decide +kernel
theorem dX11_isBetter_8 : decode cX11_isBetter 8 = .ok (.ireturn, 1) := by decide +kernel
theorem dX11_isBetter_9 : decode cX11_isBetter 9 = .ok (.aload_n 0, 1) := by decide +kernel
theorem dX11_isBetter_10 : decode cX11_isBetter 10 = .ok (.getfield 141, 3) := by decide +kernel
theorem dX11_isBetter_13 : decode cX11_isBetter 13 = .ok (.iload_n 3, 1) := by decide +kernel
theorem dX11_isBetter_14 : decode cX11_isBetter 14 = .ok (.iadd, 1) := by decide +kernel
theorem dX11_isBetter_15 : decode cX11_isBetter 15 = .ok (.aload_n 0, 1) := by decide +kernel
theorem dX11_isBetter_16 : decode cX11_isBetter 16 = .ok (.getfield 151, 3) := by decide +kernel
theorem dX11_isBetter_19 : decode cX11_isBetter 19 = .ok (.aload_n 0, 1) := by decide +kernel
theorem dX11_isBetter_20 : decode cX11_isBetter 20 = .ok (.getfield 154, 3) := by decide +kernel
theorem dX11_isBetter_23 : decode cX11_isBetter 23 = .ok (.iadd, 1) := by decide +kernel
theorem dX11_isBetter_24 : decode cX11_isBetter 24 = .ok (.if_icmp .eq 27, 3) := by decide +kernel
theorem dX11_isBetter_27 : decode cX11_isBetter 27 = .ok (.aload_n 0, 1) := by decide +kernel
theorem dX11_isBetter_28 : decode cX11_isBetter 28 = .ok (.getfield 141, 3) := by decide +kernel
theorem dX11_isBetter_31 : decode cX11_isBetter 31 = .ok (.iload_n 3, 1) := by decide +kernel
theorem dX11_isBetter_32 : decode cX11_isBetter 32 = .ok (.iadd, 1) := by decide +kernel
theorem dX11_isBetter_33 : decode cX11_isBetter 33 = .ok (.aload_n 0, 1) := by decide +kernel
theorem dX11_isBetter_34 : decode cX11_isBetter 34 = .ok (.getfield 151, 3) := by decide +kernel
theorem dX11_isBetter_37 : decode cX11_isBetter 37 = .ok (.aload_n 0, 1) := by decide +kernel
theorem dX11_isBetter_38 : decode cX11_isBetter 38 = .ok (.getfield 154, 3) := by decide +kernel
theorem dX11_isBetter_41 : decode cX11_isBetter 41 = .ok (.iadd, 1) := by decide +kernel
theorem dX11_isBetter_42 : decode cX11_isBetter 42 = .ok (.if_icmp .ge 7, 3) := by decide +kernel
theorem dX11_isBetter_45 : decode cX11_isBetter 45 = .ok (.iconst 1, 1) := by decide +kernel
theorem dX11_isBetter_46 : decode cX11_isBetter 46 = .ok (.goto 4, 3) := by decide +kernel
theorem dX11_isBetter_49 : decode cX11_isBetter 49 = .ok (.iconst 0, 1) := by decide +kernel
theorem dX11_isBetter_50 : decode cX11_isBetter 50 = .ok (.ireturn, 1) := by decide +kernel
theorem dX11_isBetter_51 : decode cX11_isBetter 51 = .ok (.iload_n 3, 1) := by decide +kernel
theorem dX11_isBetter_52 : decode cX11_isBetter 52 = .ok (.aload_n 0, 1) := by decide +kernel
theorem dX11_isBetter_53 : decode cX11_isBetter 53 = .ok (.getfield 154, 3) := by decide +kernel
theorem dX11_isBetter_56 : decode cX11_isBetter 56 = .ok (.if_icmp .eq 17, 3) := by decide +kernel
theorem dX11_isBetter_59 : decode cX11_isBetter 59 = .ok (.iload_n 3, 1) := by decide +kernel
theorem dX11_isBetter_60 : decode cX11_isBetter 60 = .ok (.aload_n 0, 1) := by decide +kernel
theorem dX11_isBetter_61 : decode cX11_isBetter 61 = .ok (.getfield 154, 3) := by decide +kernel
theorem dX11_isBetter_64 : decode cX11_isBetter 64 = .ok (.if_icmp .ge 7, 3) := by decide +kernel
theorem dX11_isBetter_67 : decode cX11_isBetter 67 = .ok (.iconst 1, 1) := by decide +kernel
theorem dX11_isBetter_68 : decode cX11_isBetter 68 = .ok (.goto 4, 3) := by decide +kernel
theorem dX11_isBetter_71 : decode cX11_isBetter 71 = .ok (.iconst 0, 1) := by decide +kernel
theorem dX11_isBetter_72 : decode cX11_isBetter 72 = .ok (.ireturn, 1) := by decide +kernel
theorem dX11_isBetter_73 : decode cX11_isBetter 73 = .ok (.iconst 0, 1) := by decide +kernel
theorem dX11_isBetter_74 : decode cX11_isBetter 74 = .ok (.istore 4, 2) := by decide +kernel
theorem dX11_isBetter_76 : decode cX11_isBetter 76 = .ok (.iload 4, 2) := by decide +kernel
theorem dX11_isBetter_78 : decode cX11_isBetter 78 = .ok (.aload_n 0, 1) := by decide +kernel
theorem dX11_isBetter_79 : decode cX11_isBetter 79 = .ok (.getfield 141, 3) := by decide +kernel
theorem dX11_isBetter_82 : decode cX11_isBetter 82 = .ok (.if_icmp .ge 49, 3) := by decide +kernel
theorem dX11_isBetter_85 : decode cX11_isBetter 85 = .ok (.aload_n 0, 1) := by decide +kernel
theorem dX11_isBetter_86 : decode cX11_isBetter 86 = .ok (.getfield 34, 3) := by decide +kernel
theorem dX11_isBetter_89 : decode cX11_isBetter 89 = .ok (.iload 4, 2) := by decide +kernel
theorem dX11_isBetter_91 : decode cX11_isBetter 91 = .ok (.iaload, 1) := by decide +kernel
theorem dX11_isBetter_92 : decode cX11_isBetter 92 = .ok (.aload_n 0, 1) := by decide +kernel
theorem dX11_isBetter_93 : decode cX11_isBetter 93 = .ok (.getfield 28, 3) := by decide +kernel
theorem dX11_isBetter_96 : decode cX11_isBetter 96 = .ok (.iload 4, 2) := by decide +kernel
theorem dX11_isBetter_98 : decode cX11_isBetter 98 = .ok (.iaload, 1) := by decide +kernel
theorem dX11_isBetter_99 : decode cX11_isBetter 99 = .ok (.if_icmp .eq 26, 3) := by decide +kernel
theorem dX11_isBetter_102 : decode cX11_isBetter 102 = .ok (.aload_n 0, 1) := by decide +kernel
theorem dX11_isBetter_103 : decode cX11_isBetter 103 = .ok (.getfield 34, 3) := by decide +kernel
theorem dX11_isBetter_106 : decode cX11_isBetter 106 = .ok (.iload 4, 2) := by decide +kernel
theorem dX11_isBetter_108 : decode cX11_isBetter 108 = .ok (.iaload, 1) := by decide +kernel
theorem dX11_isBetter_109 : decode cX11_isBetter 109 = .ok (.aload_n 0, 1) := by decide +kernel
theorem dX11_isBetter_110 : decode cX11_isBetter 110 = .ok (.getfield 28, 3) := by decide +kernel
theorem dX11_isBetter_113 : decode cX11_isBetter 113 = .ok (.iload 4, 2) := by decide +kernel
theorem dX11_isBetter_115 : decode cX11_isBetter 115 = .ok (.iaload, 1) := by decide +kernel
theorem dX11_isBetter_116 : decode cX11_isBetter 116 = .ok (.if_icmp .ge 7, 3) := by decide +kernel
theorem dX11_isBetter_119 : decode cX11_isBetter 119 = .ok (.iconst 1, 1) := by decide +kernel
theorem dX11_isBetter_120 : decode cX11_isBetter 120 = .ok (.goto 4, 3) := by decide +kernel
theorem dX11_isBetter_123 : decode cX11_isBetter 123 = .ok (.iconst 0, 1) := by decide +kernel
theorem dX11_isBetter_124 : decode cX11_isBetter 124 = .ok (.ireturn, 1) := by decide +kernel
theorem dX11_isBetter_125 : decode cX11_isBetter 125 = .ok (.iinc 4 1, 3) := by decide +kernel
theorem dX11_isBetter_128 : decode cX11_isBetter 128 = .ok (.goto (-52), 3) := by decide +kernel
theorem dX11_isBetter_131 : decode cX11_isBetter 131 = .ok (.iload_n 3, 1) := by decide +kernel
theorem dX11_isBetter_132 : decode cX11_isBetter 132 = .ok (.ifCond .le 29, 3) := by decide +kernel
theorem dX11_isBetter_135 : decode cX11_isBetter 135 = .ok (.iload_n 1, 1) := by decide +kernel
theorem dX11_isBetter_136 : decode cX11_isBetter 136 = .ok (.aload_n 0, 1) := by decide +kernel
theorem dX11_isBetter_137 : decode cX11_isBetter 137 = .ok (.getfield 31, 3) := by decide +kernel
theorem dX11_isBetter_140 : decode cX11_isBetter 140 = .ok (.iconst 0, 1) := by decide +kernel
theorem dX11_isBetter_141 : decode cX11_isBetter 141 = .ok (.iaload, 1) := by decide +kernel
theorem dX11_isBetter_142 : decode cX11_isBetter 142 = .ok (.if_icmp .eq 19, 3) := by decide +kernel
theorem dX11_isBetter_145 : decode cX11_isBetter 145 = .ok (.iload_n 1, 1) := by decide +kernel
theorem dX11_isBetter_146 : decode cX11_isBetter 146 = .ok (.aload_n 0, 1) := by decide +kernel
theorem dX11_isBetter_147 : decode cX11_isBetter 147 = .ok (.getfield 31, 3) := by decide +kernel
theorem dX11_isBetter_150 : decode cX11_isBetter 150 = .ok (.iconst 0, 1) := by decide +kernel
theorem dX11_isBetter_151 : decode cX11_isBetter 151 = .ok (.iaload, 1) := by decide +kernel
theorem dX11_isBetter_152 : decode cX11_isBetter 152 = .ok (.if_icmp .ge 7, 3) := by decide +kernel
theorem dX11_isBetter_155 : decode cX11_isBetter 155 = .ok (.iconst 1, 1) := by decide +kernel
theorem dX11_isBetter_156 : decode cX11_isBetter 156 = .ok (.goto 4, 3) := by decide +kernel
theorem dX11_isBetter_159 : decode cX11_isBetter 159 = .ok (.iconst 0, 1) := by decide +kernel
theorem dX11_isBetter_160 : decode cX11_isBetter 160 = .ok (.ireturn, 1) := by decide +kernel
theorem dX11_isBetter_161 : decode cX11_isBetter 161 = .ok (.iload_n 3, 1) := by decide +kernel
theorem dX11_isBetter_162 : decode cX11_isBetter 162 = .ok (.iconst 1, 1) := by decide +kernel
theorem dX11_isBetter_163 : decode cX11_isBetter 163 = .ok (.if_icmp .le 17, 3) := by decide +kernel
theorem dX11_isBetter_166 : decode cX11_isBetter 166 = .ok (.iload_n 2, 1) := by decide +kernel
theorem dX11_isBetter_167 : decode cX11_isBetter 167 = .ok (.aload_n 0, 1) := by decide +kernel
theorem dX11_isBetter_168 : decode cX11_isBetter 168 = .ok (.getfield 31, 3) := by decide +kernel
theorem dX11_isBetter_171 : decode cX11_isBetter 171 = .ok (.iconst 1, 1) := by decide +kernel
theorem dX11_isBetter_172 : decode cX11_isBetter 172 = .ok (.iaload, 1) := by decide +kernel
theorem dX11_isBetter_173 : decode cX11_isBetter 173 = .ok (.if_icmp .ge 7, 3) := by decide +kernel
theorem dX11_isBetter_176 : decode cX11_isBetter 176 = .ok (.iconst 1, 1) := by decide +kernel
theorem dX11_isBetter_177 : decode cX11_isBetter 177 = .ok (.goto 4, 3) := by decide +kernel
theorem dX11_isBetter_180 : decode cX11_isBetter 180 = .ok (.iconst 0, 1) := by decide +kernel
theorem dX11_isBetter_181 : decode cX11_isBetter 181 = .ok (.ireturn, 1) := by decide +kernel
theorem dX11_tries_0 : decode cX11_tries 0 = .ok (.iload_n 1, 1) := by decide +kernel
theorem dX11_tries_1 : decode cX11_tries 1 = .ok (.iconst (-1), 1) := by decide +kernel
theorem dX11_tries_2 : decode cX11_tries 2 = .ok (.if_icmp .ne 7, 3) := by decide +kernel
theorem dX11_tries_5 : decode cX11_tries 5 = .ok (.iconst 0, 1) := by decide +kernel
theorem dX11_tries_6 : decode cX11_tries 6 = .ok (.goto 4, 3) := by decide +kernel
theorem dX11_tries_9 : decode cX11_tries 9 = .ok (.iconst 1, 1) := by decide +kernel
theorem dX11_tries_10 : decode cX11_tries 10 = .ok (.iload_n 2, 1) := by decide +kernel
theorem dX11_tries_11 : decode cX11_tries 11 = .ok (.iconst (-1), 1) := by decide +kernel
theorem dX11_tries_12 : decode cX11_tries 12 = .ok (.if_icmp .ne 7, 3) := by decide +kernel
theorem dX11_tries_15 : decode cX11_tries 15 = .ok (.iconst 0, 1) := by decide +kernel
theorem dX11_tries_16 : decode cX11_tries 16 = .ok (.goto 4, 3) := by decide +kernel
theorem dX11_tries_19 : decode cX11_tries 19 = .ok (.iconst 1, 1) := by decide +kernel
theorem dX11_tries_20 : decode cX11_tries 20 = .ok (.iadd, 1) := by decide +kernel
theorem dX11_tries_21 : decode cX11_tries 21 = .ok (.istore 4, 2) := by decide +kernel
theorem dX11_tries_23 : decode cX11_tries 23 = .ok (.aload_n 0, 1) := by decide +kernel
theorem dX11_tries_24 : decode cX11_tries 24 = .ok (.iload_n 1, 1) := by decide +kernel
theorem dX11_tries_25 : decode cX11_tries 25 = .ok (.iload_n 2, 1) := by decide +kernel
theorem dX11_tries_26 : decode cX11_tries 26 = .ok (.invokevirtual 157, 3) := by decide +kernel
theorem dX11_tries_29 : decode cX11_tries 29 = .ok (.aload_n 0, 1) := by decide +kernel
theorem dX11_tries_30 : decode cX11_tries 30 = .ok (.getfield 141, 3) := by decide +kernel
theorem dX11_tries_33 : decode cX11_tries 33 = .ok (.iload_n 3, 1) := by decide +kernel
theorem dX11_tries_34 : decode cX11_tries 34 = .ok (.if_icmp .gt 25, 3) := by decide +kernel
theorem dX11_tries_37 : decode cX11_tries 37 = .ok (.iload 4, 2) := by decide +kernel
theorem dX11_tries_39 : decode cX11_tries 39 = .ok (.aload_n 0, 1) := by decide +kernel
theorem dX11_tries_40 : decode cX11_tries 40 = .ok (.getfield 8, 3) := by decide +kernel
theorem dX11_tries_43 : decode cX11_tries 43 = .ok (.iconst 4, 1) := by decide +kernel
theorem dX11_tries_44 : decode cX11_tries 44 = .ok (.iaload, 1) := by decide +kernel
theorem dX11_tries_45 : decode cX11_tries 45 = .ok (.if_icmp .gt 14, 3) := by decide +kernel
theorem dX11_tries_48 : decode cX11_tries 48 = .ok (.aload_n 0, 1) := by decide +kernel
theorem dX11_tries_49 : decode cX11_tries 49 = .ok (.iload_n 1, 1) := by decide +kernel
theorem dX11_tries_50 : decode cX11_tries 50 = .ok (.iload_n 2, 1) := by decide +kernel
theorem dX11_tries_51 : decode cX11_tries 51 = .ok (.iload 4, 2) := by decide +kernel
theorem dX11_tries_53 : decode cX11_tries 53 = .ok (.invokevirtual 160, 3) := by decide +kernel
theorem dX11_tries_56 : decode cX11_tries 56 = .ok (.ifCond .ne 4, 3) := by decide +kernel
theorem dX11_tries_59 : decode cX11_tries 59 = .ok (.return_, 1) := by decide +kernel
theorem dX11_tries_60 : decode cX11_tries 60 = .ok (.aload_n 0, 1) := by decide +kernel
theorem dX11_tries_61 : decode cX11_tries 61 = .ok (.iconst 1, 1) := by decide +kernel
theorem dX11_tries_62 : decode cX11_tries 62 = .ok (.putfield 147, 3) := by decide +kernel
theorem dX11_tries_65 : decode cX11_tries 65 = .ok (.aload_n 0, 1) := by decide +kernel
theorem dX11_tries_66 : decode cX11_tries 66 = .ok (.aload_n 0, 1) := by decide +kernel
theorem dX11_tries_67 : decode cX11_tries 67 = .ok (.getfield 141, 3) := by decide +kernel
theorem dX11_tries_70 : decode cX11_tries 70 = .ok (.putfield 151, 3) := by decide +kernel
theorem dX11_tries_73 : decode cX11_tries 73 = .ok (.aload_n 0, 1) := by decide +kernel
theorem dX11_tries_74 : decode cX11_tries 74 = .ok (.iload 4, 2) := by decide +kernel
theorem dX11_tries_76 : decode cX11_tries 76 = .ok (.putfield 154, 3) := by decide +kernel
theorem dX11_tries_79 : decode cX11_tries 79 = .ok (.iconst 0, 1) := by decide +kernel
theorem dX11_tries_80 : decode cX11_tries 80 = .ok (.istore 5, 2) := by decide +kernel
theorem dX11_tries_82 : decode cX11_tries 82 = .ok (.iload 5, 2) := by decide +kernel
theorem dX11_tries_84 : decode cX11_tries 84 = .ok (.aload_n 0, 1) := by decide +kernel
theorem dX11_tries_85 : decode cX11_tries 85 = .ok (.getfield 141, 3) := by decide +kernel
theorem dX11_tries_88 : decode cX11_tries 88 = .ok (.if_icmp .ge 23, 3) := by decide +kernel
theorem dX11_tries_91 : decode cX11_tries 91 = .ok (.aload_n 0, 1) := by decide +kernel
theorem dX11_tries_92 : decode cX11_tries 92 = .ok (.getfield 28, 3) := by decide +kernel
theorem dX11_tries_95 : decode cX11_tries 95 = .ok (.iload 5, 2) := by decide +kernel
theorem dX11_tries_97 : decode cX11_tries 97 = .ok (.aload_n 0, 1) := by decide +kernel
theorem dX11_tries_98 : decode cX11_tries 98 = .ok (.getfield 34, 3) := by decide +kernel
theorem dX11_tries_101 : decode cX11_tries 101 = .ok (.iload 5, 2) := by decide +kernel
theorem dX11_tries_103 : decode cX11_tries 103 = .ok (.iaload, 1) := by decide +kernel
theorem dX11_tries_104 : decode cX11_tries 104 = .ok (.iastore, 1) := by decide +kernel
theorem dX11_tries_105 : decode cX11_tries 105 = .ok (.iinc 5 1, 3) := by decide +kernel
theorem dX11_tries_108 : decode cX11_tries 108 = .ok (.goto (-26), 3) := by decide +kernel
theorem dX11_tries_111 : decode cX11_tries 111 = .ok (.aload_n 0, 1) := by decide +kernel
theorem dX11_tries_112 : decode cX11_tries 112 = .ok (.getfield 31, 3) := by decide +kernel
theorem dX11_tries_115 : decode cX11_tries 115 = .ok (.iconst 0, 1) := by decide +kernel
theorem dX11_tries_116 : decode cX11_tries 116 = .ok (.iload_n 1, 1) := by decide +kernel
theorem dX11_tries_117 : decode cX11_tries 117 = .ok (.iastore, 1) := by decide +kernel
theorem dX11_tries_118 : decode cX11_tries 118 = .ok (.aload_n 0, 1) := by decide +kernel
theorem dX11_tries_119 : decode cX11_tries 119 = .ok (.getfield 31, 3) := by decide +kernel
theorem dX11_tries_122 : decode cX11_tries 122 = .ok (.iconst 1, 1) := by decide +kernel
theorem dX11_tries_123 : decode cX11_tries 123 = .ok (.iload_n 2, 1) := by decide +kernel
theorem dX11_tries_124 : decode cX11_tries 124 = .ok (.iastore, 1) := by decide +kernel
theorem dX11_tries_125 : decode cX11_tries 125 = .ok (.return_, 1) := by decide +kernel
theorem dX11_laysGiven_0 : decode cX11_laysGiven 0 = .ok (.aload_n 0, 1) := by decide +kernel
theorem dX11_laysGiven_1 : decode cX11_laysGiven 1 = .ok (.iconst 0, 1) := by decide +kernel
theorem dX11_laysGiven_2 : decode cX11_laysGiven 2 = .ok (.putfield 147, 3) := by decide +kernel
theorem dX11_laysGiven_5 : decode cX11_laysGiven 5 = .ok (.aload_n 0, 1) := by decide +kernel
theorem dX11_laysGiven_6 : decode cX11_laysGiven 6 = .ok (.iconst 0, 1) := by decide +kernel
theorem dX11_laysGiven_7 : decode cX11_laysGiven 7 = .ok (.putfield 151, 3) := by decide +kernel
theorem dX11_laysGiven_10 : decode cX11_laysGiven 10 = .ok (.aload_n 0, 1) := by decide +kernel
theorem dX11_laysGiven_11 : decode cX11_laysGiven 11 = .ok (.iconst 0, 1) := by decide +kernel
theorem dX11_laysGiven_12 : decode cX11_laysGiven 12 = .ok (.putfield 154, 3) := by decide +kernel
theorem dX11_laysGiven_15 : decode cX11_laysGiven 15 = .ok (.aload_n 0, 1) := by decide +kernel
theorem dX11_laysGiven_16 : decode cX11_laysGiven 16 = .ok (.iconst (-1), 1) := by decide +kernel
theorem dX11_laysGiven_17 : decode cX11_laysGiven 17 = .ok (.iconst (-1), 1) := by decide +kernel
theorem dX11_laysGiven_18 : decode cX11_laysGiven 18 = .ok (.iload_n 1, 1) := by decide +kernel
theorem dX11_laysGiven_19 : decode cX11_laysGiven 19 = .ok (.invokevirtual 163, 3) := by decide +kernel
theorem dX11_laysGiven_22 : decode cX11_laysGiven 22 = .ok (.iconst 0, 1) := by decide +kernel
theorem dX11_laysGiven_23 : decode cX11_laysGiven 23 = .ok (.istore_n 2, 1) := by decide +kernel
theorem dX11_laysGiven_24 : decode cX11_laysGiven 24 = .ok (.iload_n 2, 1) := by decide +kernel
theorem dX11_laysGiven_25 : decode cX11_laysGiven 25 = .ok (.aload_n 0, 1) := by decide +kernel
theorem dX11_laysGiven_26 : decode cX11_laysGiven 26 = .ok (.getfield 8, 3) := by decide +kernel
theorem dX11_laysGiven_29 : decode cX11_laysGiven 29 = .ok (.bipush 9, 2) := by decide +kernel
theorem dX11_laysGiven_31 : decode cX11_laysGiven 31 = .ok (.iaload, 1) := by decide +kernel
theorem dX11_laysGiven_32 : decode cX11_laysGiven 32 = .ok (.if_icmp .ge 83, 3) := by decide +kernel
theorem dX11_laysGiven_35 : decode cX11_laysGiven 35 = .ok (.aload_n 0, 1) := by decide +kernel
theorem dX11_laysGiven_36 : decode cX11_laysGiven 36 = .ok (.getfield 8, 3) := by decide +kernel
theorem dX11_laysGiven_39 : decode cX11_laysGiven 39 = .ok (.iload_n 2, 1) := by decide +kernel
theorem dX11_laysGiven_40 : decode cX11_laysGiven 40 = .ok (.invokestatic 144, 3) := by decide +kernel
theorem dX11_laysGiven_43 : decode cX11_laysGiven 43 = .ok (.iconst 1, 1) := by decide +kernel
theorem dX11_laysGiven_44 : decode cX11_laysGiven 44 = .ok (.iadd, 1) := by decide +kernel
theorem dX11_laysGiven_45 : decode cX11_laysGiven 45 = .ok (.iaload, 1) := by decide +kernel
theorem dX11_laysGiven_46 : decode cX11_laysGiven 46 = .ok (.istore_n 3, 1) := by decide +kernel
theorem dX11_laysGiven_47 : decode cX11_laysGiven 47 = .ok (.aload_n 0, 1) := by decide +kernel
theorem dX11_laysGiven_48 : decode cX11_laysGiven 48 = .ok (.iload_n 3, 1) := by decide +kernel
theorem dX11_laysGiven_49 : decode cX11_laysGiven 49 = .ok (.iconst (-1), 1) := by decide +kernel
theorem dX11_laysGiven_50 : decode cX11_laysGiven 50 = .ok (.iload_n 1, 1) := by decide +kernel
theorem dX11_laysGiven_51 : decode cX11_laysGiven 51 = .ok (.invokevirtual 163, 3) := by decide +kernel
theorem dX11_laysGiven_54 : decode cX11_laysGiven 54 = .ok (.iconst 0, 1) := by decide +kernel
theorem dX11_laysGiven_55 : decode cX11_laysGiven 55 = .ok (.istore 4, 2) := by decide +kernel
theorem dX11_laysGiven_57 : decode cX11_laysGiven 57 = .ok (.iload 4, 2) := by decide +kernel
theorem dX11_laysGiven_59 : decode cX11_laysGiven 59 = .ok (.aload_n 0, 1) := by decide +kernel
theorem dX11_laysGiven_60 : decode cX11_laysGiven 60 = .ok (.getfield 8, 3) := by decide +kernel
theorem dX11_laysGiven_63 : decode cX11_laysGiven 63 = .ok (.bipush 9, 2) := by decide +kernel
theorem dX11_laysGiven_65 : decode cX11_laysGiven 65 = .ok (.iaload, 1) := by decide +kernel
theorem dX11_laysGiven_66 : decode cX11_laysGiven 66 = .ok (.if_icmp .ge 43, 3) := by decide +kernel
theorem dX11_laysGiven_69 : decode cX11_laysGiven 69 = .ok (.aload_n 0, 1) := by decide +kernel
theorem dX11_laysGiven_70 : decode cX11_laysGiven 70 = .ok (.getfield 8, 3) := by decide +kernel
theorem dX11_laysGiven_73 : decode cX11_laysGiven 73 = .ok (.iload 4, 2) := by decide +kernel
theorem dX11_laysGiven_75 : decode cX11_laysGiven 75 = .ok (.invokestatic 144, 3) := by decide +kernel
theorem dX11_laysGiven_78 : decode cX11_laysGiven 78 = .ok (.iconst 1, 1) := by decide +kernel
theorem dX11_laysGiven_79 : decode cX11_laysGiven 79 = .ok (.iadd, 1) := by decide +kernel
theorem dX11_laysGiven_80 : decode cX11_laysGiven 80 = .ok (.iaload, 1) := by decide +kernel
theorem dX11_laysGiven_81 : decode cX11_laysGiven 81 = .ok (.iload_n 3, 1) := by decide +kernel
theorem dX11_laysGiven_82 : decode cX11_laysGiven 82 = .ok (.if_icmp .le 21, 3) := by decide +kernel
theorem dX11_laysGiven_85 : decode cX11_laysGiven 85 = .ok (.aload_n 0, 1) := by decide +kernel
theorem dX11_laysGiven_86 : decode cX11_laysGiven 86 = .ok (.iload_n 3, 1) := by decide +kernel
theorem dX11_laysGiven_87 : decode cX11_laysGiven 87 = .ok (.aload_n 0, 1) := by decide +kernel
theorem dX11_laysGiven_88 : decode cX11_laysGiven 88 = .ok (.getfield 8, 3) := by decide +kernel
theorem dX11_laysGiven_91 : decode cX11_laysGiven 91 = .ok (.iload 4, 2) := by decide +kernel
theorem dX11_laysGiven_93 : decode cX11_laysGiven 93 = .ok (.invokestatic 144, 3) := by decide +kernel
theorem dX11_laysGiven_96 : decode cX11_laysGiven 96 = .ok (.iconst 1, 1) := by decide +kernel
theorem dX11_laysGiven_97 : decode cX11_laysGiven 97 = .ok (.iadd, 1) := by decide +kernel
theorem dX11_laysGiven_98 : decode cX11_laysGiven 98 = .ok (.iaload, 1) := by decide +kernel
theorem dX11_laysGiven_99 : decode cX11_laysGiven 99 = .ok (.iload_n 1, 1) := by decide +kernel
theorem dX11_laysGiven_100 : decode cX11_laysGiven 100 = .ok (.invokevirtual 163, 3) := by decide +kernel
theorem dX11_laysGiven_103 : decode cX11_laysGiven 103 = .ok (.iinc 4 1, 3) := by decide +kernel
theorem dX11_laysGiven_106 : decode cX11_laysGiven 106 = .ok (.goto (-49), 3) := by decide +kernel
theorem dX11_laysGiven_109 : decode cX11_laysGiven 109 = .ok (.iinc 2 1, 3) := by decide +kernel
theorem dX11_laysGiven_112 : decode cX11_laysGiven 112 = .ok (.goto (-88), 3) := by decide +kernel
theorem dX11_laysGiven_115 : decode cX11_laysGiven 115 = .ok (.aload_n 0, 1) := by decide +kernel
theorem dX11_laysGiven_116 : decode cX11_laysGiven 116 = .ok (.getfield 147, 3) := by decide +kernel
theorem dX11_laysGiven_119 : decode cX11_laysGiven 119 = .ok (.ifCond .eq 4, 3) := by decide +kernel
theorem dX11_laysGiven_122 : decode cX11_laysGiven 122 = .ok (.return_, 1) := by decide +kernel
theorem dX11_laysGiven_123 : decode cX11_laysGiven 123 = .ok (.aload_n 0, 1) := by decide +kernel
theorem dX11_laysGiven_124 : decode cX11_laysGiven 124 = .ok (.iconst 0, 1) := by decide +kernel
theorem dX11_laysGiven_125 : decode cX11_laysGiven 125 = .ok (.putfield 151, 3) := by decide +kernel
theorem dX11_laysGiven_128 : decode cX11_laysGiven 128 = .ok (.aload_n 0, 1) := by decide +kernel
theorem dX11_laysGiven_129 : decode cX11_laysGiven 129 = .ok (.iconst 0, 1) := by decide +kernel
theorem dX11_laysGiven_130 : decode cX11_laysGiven 130 = .ok (.putfield 154, 3) := by decide +kernel
theorem dX11_laysGiven_133 : decode cX11_laysGiven 133 = .ok (.return_, 1) := by decide +kernel
theorem dX11_laysAll_0 : decode cX11_laysAll 0 = .ok (.aload_n 0, 1) := by decide +kernel
theorem dX11_laysAll_1 : decode cX11_laysAll 1 = .ok (.aload_n 0, 1) := by decide +kernel
theorem dX11_laysAll_2 : decode cX11_laysAll 2 = .ok (.iconst 0, 1) := by decide +kernel
theorem dX11_laysAll_3 : decode cX11_laysAll 3 = .ok (.invokevirtual 135, 3) := by decide +kernel
theorem dX11_laysAll_6 : decode cX11_laysAll 6 = .ok (.putfield 167, 3) := by decide +kernel
theorem dX11_laysAll_9 : decode cX11_laysAll 9 = .ok (.aload_n 0, 1) := by decide +kernel
theorem dX11_laysAll_10 : decode cX11_laysAll 10 = .ok (.aload_n 0, 1) := by decide +kernel
theorem dX11_laysAll_11 : decode cX11_laysAll 11 = .ok (.getfield 8, 3) := by decide +kernel
theorem dX11_laysAll_14 : decode cX11_laysAll 14 = .ok (.iconst 3, 1) := by decide +kernel
theorem dX11_laysAll_15 : decode cX11_laysAll 15 = .ok (.iaload, 1) := by decide +kernel
theorem dX11_laysAll_16 : decode cX11_laysAll 16 = .ok (.invokevirtual 170, 3) := by decide +kernel
theorem dX11_laysAll_19 : decode cX11_laysAll 19 = .ok (.return_, 1) := by decide +kernel
theorem dX11_isCell_0 : decode cX11_isCell 0 = .ok (.iload_n 1, 1) := by decide +kernel
theorem dX11_isCell_1 : decode cX11_isCell 1 = .ok (.iconst 0, 1) := by decide +kernel
theorem dX11_isCell_2 : decode cX11_isCell 2 = .ok (.aload_n 0, 1) := by decide +kernel
theorem dX11_isCell_3 : decode cX11_isCell 3 = .ok (.getfield 8, 3) := by decide +kernel
theorem dX11_isCell_6 : decode cX11_isCell 6 = .ok (.iconst 0, 1) := by decide +kernel
theorem dX11_isCell_7 : decode cX11_isCell 7 = .ok (.iaload, 1) := by decide +kernel
theorem dX11_isCell_8 : decode cX11_isCell 8 = .ok (.iconst 1, 1) := by decide +kernel
theorem dX11_isCell_9 : decode cX11_isCell 9 = .ok (.isub, 1) := by decide +kernel
theorem dX11_isCell_10 : decode cX11_isCell 10 = .ok (.invokestatic 52, 3) := by decide +kernel
theorem dX11_isCell_13 : decode cX11_isCell 13 = .ok (.ifCond .eq 23, 3) := by decide +kernel
theorem dX11_isCell_16 : decode cX11_isCell 16 = .ok (.iload_n 2, 1) := by decide +kernel
theorem dX11_isCell_17 : decode cX11_isCell 17 = .ok (.iconst 0, 1) := by decide +kernel
theorem dX11_isCell_18 : decode cX11_isCell 18 = .ok (.aload_n 0, 1) := by decide +kernel
theorem dX11_isCell_19 : decode cX11_isCell 19 = .ok (.getfield 8, 3) := by decide +kernel
theorem dX11_isCell_22 : decode cX11_isCell 22 = .ok (.iconst 1, 1) := by decide +kernel
theorem dX11_isCell_23 : decode cX11_isCell 23 = .ok (.iaload, 1) := by decide +kernel
theorem dX11_isCell_24 : decode cX11_isCell 24 = .ok (.iconst 1, 1) := by decide +kernel
theorem dX11_isCell_25 : decode cX11_isCell 25 = .ok (.isub, 1) := by decide +kernel
theorem dX11_isCell_26 : decode cX11_isCell 26 = .ok (.invokestatic 52, 3) := by decide +kernel
theorem dX11_isCell_29 : decode cX11_isCell 29 = .ok (.ifCond .eq 7, 3) := by decide +kernel
theorem dX11_isCell_32 : decode cX11_isCell 32 = .ok (.iconst 1, 1) := by decide +kernel
theorem dX11_isCell_33 : decode cX11_isCell 33 = .ok (.goto 4, 3) := by decide +kernel
theorem dX11_isCell_36 : decode cX11_isCell 36 = .ok (.iconst 0, 1) := by decide +kernel
theorem dX11_isCell_37 : decode cX11_isCell 37 = .ok (.ireturn, 1) := by decide +kernel
theorem dX11_goesTo_0 : decode cX11_goesTo 0 = .ok (.iload_n 1, 1) := by decide +kernel
theorem dX11_goesTo_1 : decode cX11_goesTo 1 = .ok (.aload_n 0, 1) := by decide +kernel
theorem dX11_goesTo_2 : decode cX11_goesTo 2 = .ok (.getfield 167, 3) := by decide +kernel
theorem dX11_goesTo_5 : decode cX11_goesTo 5 = .ok (.idiv, 1) := by decide +kernel
theorem dX11_goesTo_6 : decode cX11_goesTo 6 = .ok (.istore_n 3, 1) := by decide +kernel
theorem dX11_goesTo_7 : decode cX11_goesTo 7 = .ok (.iload_n 2, 1) := by decide +kernel
theorem dX11_goesTo_8 : decode cX11_goesTo 8 = .ok (.aload_n 0, 1) := by decide +kernel
theorem dX11_goesTo_9 : decode cX11_goesTo 9 = .ok (.getfield 167, 3) := by decide +kernel
theorem dX11_goesTo_12 : decode cX11_goesTo 12 = .ok (.imul, 1) := by decide +kernel
theorem dX11_goesTo_13 : decode cX11_goesTo 13 = .ok (.iload_n 1, 1) := by decide +kernel
theorem dX11_goesTo_14 : decode cX11_goesTo 14 = .ok (.aload_n 0, 1) := by decide +kernel
theorem dX11_goesTo_15 : decode cX11_goesTo 15 = .ok (.getfield 167, 3) := by decide +kernel
theorem dX11_goesTo_18 : decode cX11_goesTo 18 = .ok (.irem, 1) := by decide +kernel
theorem dX11_goesTo_19 : decode cX11_goesTo 19 = .ok (.iadd, 1) := by decide +kernel
theorem dX11_goesTo_20 : decode cX11_goesTo 20 = .ok (.istore 4, 2) := by decide +kernel
theorem dX11_goesTo_22 : decode cX11_goesTo 22 = .ok (.aload_n 0, 1) := by decide +kernel
theorem dX11_goesTo_23 : decode cX11_goesTo 23 = .ok (.iload_n 3, 1) := by decide +kernel
theorem dX11_goesTo_24 : decode cX11_goesTo 24 = .ok (.putfield 173, 3) := by decide +kernel
theorem dX11_goesTo_27 : decode cX11_goesTo 27 = .ok (.aload_n 0, 1) := by decide +kernel
theorem dX11_goesTo_28 : decode cX11_goesTo 28 = .ok (.iload 4, 2) := by decide +kernel
theorem dX11_goesTo_30 : decode cX11_goesTo 30 = .ok (.putfield 176, 3) := by decide +kernel
theorem dX11_goesTo_33 : decode cX11_goesTo 33 = .ok (.iconst 0, 1) := by decide +kernel
theorem dX11_goesTo_34 : decode cX11_goesTo 34 = .ok (.istore 5, 2) := by decide +kernel
theorem dX11_goesTo_36 : decode cX11_goesTo 36 = .ok (.iload 5, 2) := by decide +kernel
theorem dX11_goesTo_38 : decode cX11_goesTo 38 = .ok (.aload_n 0, 1) := by decide +kernel
theorem dX11_goesTo_39 : decode cX11_goesTo 39 = .ok (.getfield 151, 3) := by decide +kernel
theorem dX11_goesTo_42 : decode cX11_goesTo 42 = .ok (.if_icmp .ge 43, 3) := by decide +kernel
theorem dX11_goesTo_45 : decode cX11_goesTo 45 = .ok (.aload_n 0, 1) := by decide +kernel
theorem dX11_goesTo_46 : decode cX11_goesTo 46 = .ok (.aload_n 0, 1) := by decide +kernel
theorem dX11_goesTo_47 : decode cX11_goesTo 47 = .ok (.getfield 28, 3) := by decide +kernel
theorem dX11_goesTo_50 : decode cX11_goesTo 50 = .ok (.iload 5, 2) := by decide +kernel
theorem dX11_goesTo_52 : decode cX11_goesTo 52 = .ok (.iaload, 1) := by decide +kernel
theorem dX11_goesTo_53 : decode cX11_goesTo 53 = .ok (.iload_n 3, 1) := by decide +kernel
theorem dX11_goesTo_54 : decode cX11_goesTo 54 = .ok (.if_icmp .ne 18, 3) := by decide +kernel
theorem dX11_goesTo_57 : decode cX11_goesTo 57 = .ok (.aload_n 0, 1) := by decide +kernel
theorem dX11_goesTo_58 : decode cX11_goesTo 58 = .ok (.iconst 0, 1) := by decide +kernel
theorem dX11_goesTo_59 : decode cX11_goesTo 59 = .ok (.aload_n 0, 1) := by decide +kernel
theorem dX11_goesTo_60 : decode cX11_goesTo 60 = .ok (.getfield 167, 3) := by decide +kernel
theorem dX11_goesTo_63 : decode cX11_goesTo 63 = .ok (.invokevirtual 48, 3) := by decide +kernel
theorem dX11_goesTo_66 : decode cX11_goesTo 66 = .ok (.iload 5, 2) := by decide +kernel
theorem dX11_goesTo_68 : decode cX11_goesTo 68 = .ok (.iadd, 1) := by decide +kernel
theorem dX11_goesTo_69 : decode cX11_goesTo 69 = .ok (.goto 7, 3) := by decide +kernel
theorem dX11_goesTo_72 : decode cX11_goesTo 72 = .ok (.aload_n 0, 1) := by decide +kernel
theorem dX11_goesTo_73 : decode cX11_goesTo 73 = .ok (.getfield 173, 3) := by decide +kernel
theorem dX11_goesTo_76 : decode cX11_goesTo 76 = .ok (.putfield 173, 3) := by decide +kernel
theorem dX11_goesTo_79 : decode cX11_goesTo 79 = .ok (.iinc 5 1, 3) := by decide +kernel
theorem dX11_goesTo_82 : decode cX11_goesTo 82 = .ok (.goto (-46), 3) := by decide +kernel
theorem dX11_goesTo_85 : decode cX11_goesTo 85 = .ok (.iconst 0, 1) := by decide +kernel
theorem dX11_goesTo_86 : decode cX11_goesTo 86 = .ok (.istore 5, 2) := by decide +kernel
theorem dX11_goesTo_88 : decode cX11_goesTo 88 = .ok (.iload 5, 2) := by decide +kernel
theorem dX11_goesTo_90 : decode cX11_goesTo 90 = .ok (.aload_n 0, 1) := by decide +kernel
theorem dX11_goesTo_91 : decode cX11_goesTo 91 = .ok (.getfield 154, 3) := by decide +kernel
theorem dX11_goesTo_94 : decode cX11_goesTo 94 = .ok (.if_icmp .ge 44, 3) := by decide +kernel
theorem dX11_goesTo_97 : decode cX11_goesTo 97 = .ok (.aload_n 0, 1) := by decide +kernel
theorem dX11_goesTo_98 : decode cX11_goesTo 98 = .ok (.aload_n 0, 1) := by decide +kernel
theorem dX11_goesTo_99 : decode cX11_goesTo 99 = .ok (.getfield 31, 3) := by decide +kernel
theorem dX11_goesTo_102 : decode cX11_goesTo 102 = .ok (.iload 5, 2) := by decide +kernel
theorem dX11_goesTo_104 : decode cX11_goesTo 104 = .ok (.iaload, 1) := by decide +kernel
theorem dX11_goesTo_105 : decode cX11_goesTo 105 = .ok (.iload 4, 2) := by decide +kernel
theorem dX11_goesTo_107 : decode cX11_goesTo 107 = .ok (.if_icmp .ne 18, 3) := by decide +kernel
theorem dX11_goesTo_110 : decode cX11_goesTo 110 = .ok (.aload_n 0, 1) := by decide +kernel
theorem dX11_goesTo_111 : decode cX11_goesTo 111 = .ok (.iconst 0, 1) := by decide +kernel
theorem dX11_goesTo_112 : decode cX11_goesTo 112 = .ok (.aload_n 0, 1) := by decide +kernel
theorem dX11_goesTo_113 : decode cX11_goesTo 113 = .ok (.getfield 167, 3) := by decide +kernel
theorem dX11_goesTo_116 : decode cX11_goesTo 116 = .ok (.invokevirtual 56, 3) := by decide +kernel
theorem dX11_goesTo_119 : decode cX11_goesTo 119 = .ok (.iload 5, 2) := by decide +kernel
theorem dX11_goesTo_121 : decode cX11_goesTo 121 = .ok (.iadd, 1) := by decide +kernel
theorem dX11_goesTo_122 : decode cX11_goesTo 122 = .ok (.goto 7, 3) := by decide +kernel
theorem dX11_goesTo_125 : decode cX11_goesTo 125 = .ok (.aload_n 0, 1) := by decide +kernel
theorem dX11_goesTo_126 : decode cX11_goesTo 126 = .ok (.getfield 176, 3) := by decide +kernel
theorem dX11_goesTo_129 : decode cX11_goesTo 129 = .ok (.putfield 176, 3) := by decide +kernel
theorem dX11_goesTo_132 : decode cX11_goesTo 132 = .ok (.iinc 5 1, 3) := by decide +kernel
theorem dX11_goesTo_135 : decode cX11_goesTo 135 = .ok (.goto (-47), 3) := by decide +kernel
theorem dX11_goesTo_138 : decode cX11_goesTo 138 = .ok (.sipush 258, 3) := by decide +kernel
theorem dX11_goesTo_141 : decode cX11_goesTo 141 = .ok (.aload_n 0, 1) := by decide +kernel
theorem dX11_goesTo_142 : decode cX11_goesTo 142 = .ok (.getfield 173, 3) := by decide +kernel
theorem dX11_goesTo_145 : decode cX11_goesTo 145 = .ok (.imul, 1) := by decide +kernel
theorem dX11_goesTo_146 : decode cX11_goesTo 146 = .ok (.aload_n 0, 1) := by decide +kernel
theorem dX11_goesTo_147 : decode cX11_goesTo 147 = .ok (.getfield 176, 3) := by decide +kernel
theorem dX11_goesTo_150 : decode cX11_goesTo 150 = .ok (.iadd, 1) := by decide +kernel
theorem dX11_goesTo_151 : decode cX11_goesTo 151 = .ok (.istore 5, 2) := by decide +kernel
theorem dX11_goesTo_153 : decode cX11_goesTo 153 = .ok (.aload_n 0, 1) := by decide +kernel
theorem dX11_goesTo_154 : decode cX11_goesTo 154 = .ok (.aload_n 0, 1) := by decide +kernel
theorem dX11_goesTo_155 : decode cX11_goesTo 155 = .ok (.getfield 8, 3) := by decide +kernel
theorem dX11_goesTo_158 : decode cX11_goesTo 158 = .ok (.bipush 46, 2) := by decide +kernel
theorem dX11_goesTo_160 : decode cX11_goesTo 160 = .ok (.iload 5, 2) := by decide +kernel
theorem dX11_goesTo_162 : decode cX11_goesTo 162 = .ok (.bipush 32, 2) := by decide +kernel
theorem dX11_goesTo_164 : decode cX11_goesTo 164 = .ok (.idiv, 1) := by decide +kernel
theorem dX11_goesTo_165 : decode cX11_goesTo 165 = .ok (.iadd, 1) := by decide +kernel
theorem dX11_goesTo_166 : decode cX11_goesTo 166 = .ok (.iaload, 1) := by decide +kernel
theorem dX11_goesTo_167 : decode cX11_goesTo 167 = .ok (.iload 5, 2) := by decide +kernel
theorem dX11_goesTo_169 : decode cX11_goesTo 169 = .ok (.bipush 32, 2) := by decide +kernel
theorem dX11_goesTo_171 : decode cX11_goesTo 171 = .ok (.irem, 1) := by decide +kernel
theorem dX11_goesTo_172 : decode cX11_goesTo 172 = .ok (.ishr, 1) := by decide +kernel
theorem dX11_goesTo_173 : decode cX11_goesTo 173 = .ok (.iconst 1, 1) := by decide +kernel
theorem dX11_goesTo_174 : decode cX11_goesTo 174 = .ok (.iand, 1) := by decide +kernel
theorem dX11_goesTo_175 : decode cX11_goesTo 175 = .ok (.putfield 179, 3) := by decide +kernel
theorem dX11_goesTo_178 : decode cX11_goesTo 178 = .ok (.aload_n 0, 1) := by decide +kernel
theorem dX11_goesTo_179 : decode cX11_goesTo 179 = .ok (.iconst 0, 1) := by decide +kernel
theorem dX11_goesTo_180 : decode cX11_goesTo 180 = .ok (.putfield 182, 3) := by decide +kernel
theorem dX11_goesTo_183 : decode cX11_goesTo 183 = .ok (.iconst 0, 1) := by decide +kernel
theorem dX11_goesTo_184 : decode cX11_goesTo 184 = .ok (.istore 6, 2) := by decide +kernel
theorem dX11_goesTo_186 : decode cX11_goesTo 186 = .ok (.iload 6, 2) := by decide +kernel
theorem dX11_goesTo_188 : decode cX11_goesTo 188 = .ok (.aload_n 0, 1) := by decide +kernel
theorem dX11_goesTo_189 : decode cX11_goesTo 189 = .ok (.getfield 8, 3) := by decide +kernel
theorem dX11_goesTo_192 : decode cX11_goesTo 192 = .ok (.bipush 9, 2) := by decide +kernel
theorem dX11_goesTo_194 : decode cX11_goesTo 194 = .ok (.iaload, 1) := by decide +kernel
theorem dX11_goesTo_195 : decode cX11_goesTo 195 = .ok (.if_icmp .ge 69, 3) := by decide +kernel
theorem dX11_goesTo_198 : decode cX11_goesTo 198 = .ok (.aload_n 0, 1) := by decide +kernel
theorem dX11_goesTo_199 : decode cX11_goesTo 199 = .ok (.getfield 8, 3) := by decide +kernel
theorem dX11_goesTo_202 : decode cX11_goesTo 202 = .ok (.iload 6, 2) := by decide +kernel
theorem dX11_goesTo_204 : decode cX11_goesTo 204 = .ok (.invokestatic 144, 3) := by decide +kernel
theorem dX11_goesTo_207 : decode cX11_goesTo 207 = .ok (.iaload, 1) := by decide +kernel
theorem dX11_goesTo_208 : decode cX11_goesTo 208 = .ok (.aload_n 0, 1) := by decide +kernel
theorem dX11_goesTo_209 : decode cX11_goesTo 209 = .ok (.getfield 173, 3) := by decide +kernel
theorem dX11_goesTo_212 : decode cX11_goesTo 212 = .ok (.if_icmp .ne 46, 3) := by decide +kernel
theorem dX11_goesTo_215 : decode cX11_goesTo 215 = .ok (.aload_n 0, 1) := by decide +kernel
theorem dX11_goesTo_216 : decode cX11_goesTo 216 = .ok (.getfield 8, 3) := by decide +kernel
theorem dX11_goesTo_219 : decode cX11_goesTo 219 = .ok (.iload 6, 2) := by decide +kernel
theorem dX11_goesTo_221 : decode cX11_goesTo 221 = .ok (.invokestatic 144, 3) := by decide +kernel
theorem dX11_goesTo_224 : decode cX11_goesTo 224 = .ok (.iconst 1, 1) := by decide +kernel
theorem dX11_goesTo_225 : decode cX11_goesTo 225 = .ok (.iadd, 1) := by decide +kernel
theorem dX11_goesTo_226 : decode cX11_goesTo 226 = .ok (.iaload, 1) := by decide +kernel
theorem dX11_goesTo_227 : decode cX11_goesTo 227 = .ok (.aload_n 0, 1) := by decide +kernel
theorem dX11_goesTo_228 : decode cX11_goesTo 228 = .ok (.getfield 176, 3) := by decide +kernel
theorem dX11_goesTo_231 : decode cX11_goesTo 231 = .ok (.if_icmp .eq 6, 3) := by decide +kernel
theorem dX11_goesTo_234 : decode cX11_goesTo 234 = .ok (.goto 24, 3) := by decide +kernel
theorem dX11_goesTo_237 : decode cX11_goesTo 237 = .ok (.aload_n 0, 1) := by decide +kernel
theorem dX11_goesTo_238 : decode cX11_goesTo 238 = .ok (.iconst 1, 1) := by decide +kernel
theorem dX11_goesTo_239 : decode cX11_goesTo 239 = .ok (.putfield 182, 3) := by decide +kernel
theorem dX11_goesTo_242 : decode cX11_goesTo 242 = .ok (.aload_n 0, 1) := by decide +kernel
theorem dX11_goesTo_243 : decode cX11_goesTo 243 = .ok (.aload_n 0, 1) := by decide +kernel
theorem dX11_goesTo_244 : decode cX11_goesTo 244 = .ok (.getfield 8, 3) := by decide +kernel
theorem dX11_goesTo_247 : decode cX11_goesTo 247 = .ok (.iload 6, 2) := by decide +kernel
theorem dX11_goesTo_249 : decode cX11_goesTo 249 = .ok (.invokestatic 144, 3) := by decide +kernel
theorem dX11_goesTo_252 : decode cX11_goesTo 252 = .ok (.iconst 2, 1) := by decide +kernel
theorem dX11_goesTo_253 : decode cX11_goesTo 253 = .ok (.iadd, 1) := by decide +kernel
theorem dX11_goesTo_254 : decode cX11_goesTo 254 = .ok (.iaload, 1) := by decide +kernel
theorem dX11_goesTo_255 : decode cX11_goesTo 255 = .ok (.putfield 179, 3) := by decide +kernel
theorem dX11_goesTo_258 : decode cX11_goesTo 258 = .ok (.iinc 6 1, 3) := by decide +kernel
theorem dX11_goesTo_261 : decode cX11_goesTo 261 = .ok (.goto (-75), 3) := by decide +kernel
theorem dX11_goesTo_264 : decode cX11_goesTo 264 = .ok (.return_, 1) := by decide +kernel
theorem dX11_lays_0 : decode cX11_lays 0 = .ok (.aload_n 0, 1) := by decide +kernel
theorem dX11_lays_1 : decode cX11_lays 1 = .ok (.iload_n 1, 1) := by decide +kernel
theorem dX11_lays_2 : decode cX11_lays 2 = .ok (.iload_n 2, 1) := by decide +kernel
theorem dX11_lays_3 : decode cX11_lays 3 = .ok (.invokevirtual 185, 3) := by decide +kernel
theorem dX11_lays_6 : decode cX11_lays 6 = .ok (.sipush 258, 3) := by decide +kernel
theorem dX11_lays_9 : decode cX11_lays 9 = .ok (.aload_n 0, 1) := by decide +kernel
theorem dX11_lays_10 : decode cX11_lays 10 = .ok (.getfield 173, 3) := by decide +kernel
theorem dX11_lays_13 : decode cX11_lays 13 = .ok (.imul, 1) := by decide +kernel
theorem dX11_lays_14 : decode cX11_lays 14 = .ok (.aload_n 0, 1) := by decide +kernel
theorem dX11_lays_15 : decode cX11_lays 15 = .ok (.getfield 176, 3) := by decide +kernel
theorem dX11_lays_18 : decode cX11_lays 18 = .ok (.iadd, 1) := by decide +kernel
theorem dX11_lays_19 : decode cX11_lays 19 = .ok (.istore 4, 2) := by decide +kernel
theorem dX11_lays_21 : decode cX11_lays 21 = .ok (.aload_n 0, 1) := by decide +kernel
theorem dX11_lays_22 : decode cX11_lays 22 = .ok (.getfield 8, 3) := by decide +kernel
theorem dX11_lays_25 : decode cX11_lays 25 = .ok (.bipush 46, 2) := by decide +kernel
theorem dX11_lays_27 : decode cX11_lays 27 = .ok (.iload 4, 2) := by decide +kernel
theorem dX11_lays_29 : decode cX11_lays 29 = .ok (.bipush 32, 2) := by decide +kernel
theorem dX11_lays_31 : decode cX11_lays 31 = .ok (.idiv, 1) := by decide +kernel
theorem dX11_lays_32 : decode cX11_lays 32 = .ok (.iadd, 1) := by decide +kernel
theorem dX11_lays_33 : decode cX11_lays 33 = .ok (.aload_n 0, 1) := by decide +kernel
theorem dX11_lays_34 : decode cX11_lays 34 = .ok (.getfield 8, 3) := by decide +kernel
theorem dX11_lays_37 : decode cX11_lays 37 = .ok (.bipush 46, 2) := by decide +kernel
theorem dX11_lays_39 : decode cX11_lays 39 = .ok (.iload 4, 2) := by decide +kernel
theorem dX11_lays_41 : decode cX11_lays 41 = .ok (.bipush 32, 2) := by decide +kernel
theorem dX11_lays_43 : decode cX11_lays 43 = .ok (.idiv, 1) := by decide +kernel
theorem dX11_lays_44 : decode cX11_lays 44 = .ok (.iadd, 1) := by decide +kernel
theorem dX11_lays_45 : decode cX11_lays 45 = .ok (.iaload, 1) := by decide +kernel
theorem dX11_lays_46 : decode cX11_lays 46 = .ok (.iconst 1, 1) := by decide +kernel
theorem dX11_lays_47 : decode cX11_lays 47 = .ok (.iload 4, 2) := by decide +kernel
theorem dX11_lays_49 : decode cX11_lays 49 = .ok (.bipush 32, 2) := by decide +kernel
theorem dX11_lays_51 : decode cX11_lays 51 = .ok (.irem, 1) := by decide +kernel
theorem dX11_lays_52 : decode cX11_lays 52 = .ok (.ishl, 1) := by decide +kernel
theorem dX11_lays_53 : decode cX11_lays 53 = .ok (.iconst (-1), 1) := by decide +kernel
theorem dX11_lays_54 : decode cX11_lays 54 = .ok (.ixor, 1) := by decide +kernel
theorem dX11_lays_55 : decode cX11_lays 55 = .ok (.iand, 1) := by decide +kernel
theorem dX11_lays_56 : decode cX11_lays 56 = .ok (.iload_n 3, 1) := by decide +kernel
theorem dX11_lays_57 : decode cX11_lays 57 = .ok (.iload 4, 2) := by decide +kernel
theorem dX11_lays_59 : decode cX11_lays 59 = .ok (.bipush 32, 2) := by decide +kernel
theorem dX11_lays_61 : decode cX11_lays 61 = .ok (.irem, 1) := by decide +kernel
theorem dX11_lays_62 : decode cX11_lays 62 = .ok (.ishl, 1) := by decide +kernel
theorem dX11_lays_63 : decode cX11_lays 63 = .ok (.ior, 1) := by decide +kernel
theorem dX11_lays_64 : decode cX11_lays 64 = .ok (.iastore, 1) := by decide +kernel
theorem dX11_lays_65 : decode cX11_lays 65 = .ok (.return_, 1) := by decide +kernel
theorem dX11_clears_0 : decode cX11_clears 0 = .ok (.bipush 46, 2) := by decide +kernel
theorem dX11_clears_2 : decode cX11_clears 2 = .ok (.istore_n 1, 1) := by decide +kernel
theorem dX11_clears_3 : decode cX11_clears 3 = .ok (.iload_n 1, 1) := by decide +kernel
theorem dX11_clears_4 : decode cX11_clears 4 = .ok (.sipush 4208, 3) := by decide +kernel
theorem dX11_clears_7 : decode cX11_clears 7 = .ok (.if_icmp .ge 16, 3) := by decide +kernel
theorem dX11_clears_10 : decode cX11_clears 10 = .ok (.aload_n 0, 1) := by decide +kernel
theorem dX11_clears_11 : decode cX11_clears 11 = .ok (.getfield 8, 3) := by decide +kernel
theorem dX11_clears_14 : decode cX11_clears 14 = .ok (.iload_n 1, 1) := by decide +kernel
theorem dX11_clears_15 : decode cX11_clears 15 = .ok (.iconst 0, 1) := by decide +kernel
theorem dX11_clears_16 : decode cX11_clears 16 = .ok (.iastore, 1) := by decide +kernel
theorem dX11_clears_17 : decode cX11_clears 17 = .ok (.iinc 1 1, 3) := by decide +kernel
theorem dX11_clears_20 : decode cX11_clears 20 = .ok (.goto (-17), 3) := by decide +kernel
theorem dX11_clears_23 : decode cX11_clears 23 = .ok (.return_, 1) := by decide +kernel
theorem dX11_summed_0 : decode cX11_summed 0 = .ok (.aload_n 0, 1) := by decide +kernel
theorem dX11_summed_1 : decode cX11_summed 1 = .ok (.invokevirtual 188, 3) := by decide +kernel
theorem dX11_summed_4 : decode cX11_summed 4 = .ok (.iconst 0, 1) := by decide +kernel
theorem dX11_summed_5 : decode cX11_summed 5 = .ok (.istore_n 2, 1) := by decide +kernel
theorem dX11_summed_6 : decode cX11_summed 6 = .ok (.iconst 0, 1) := by decide +kernel
theorem dX11_summed_7 : decode cX11_summed 7 = .ok (.istore_n 3, 1) := by decide +kernel
theorem dX11_summed_8 : decode cX11_summed 8 = .ok (.iload_n 3, 1) := by decide +kernel
theorem dX11_summed_9 : decode cX11_summed 9 = .ok (.aload_n 0, 1) := by decide +kernel
theorem dX11_summed_10 : decode cX11_summed 10 = .ok (.getfield 8, 3) := by decide +kernel
theorem dX11_summed_13 : decode cX11_summed 13 = .ok (.iconst 0, 1) := by decide +kernel
theorem dX11_summed_14 : decode cX11_summed 14 = .ok (.iaload, 1) := by decide +kernel
theorem dX11_summed_15 : decode cX11_summed 15 = .ok (.if_icmp .ge 77, 3) := by decide +kernel
theorem dX11_summed_18 : decode cX11_summed 18 = .ok (.iconst 0, 1) := by decide +kernel
theorem dX11_summed_19 : decode cX11_summed 19 = .ok (.istore 4, 2) := by decide +kernel
theorem dX11_summed_21 : decode cX11_summed 21 = .ok (.iload 4, 2) := by decide +kernel
theorem dX11_summed_23 : decode cX11_summed 23 = .ok (.aload_n 0, 1) := by decide +kernel
theorem dX11_summed_24 : decode cX11_summed 24 = .ok (.getfield 8, 3) := by decide +kernel
theorem dX11_summed_27 : decode cX11_summed 27 = .ok (.iconst 1, 1) := by decide +kernel
theorem dX11_summed_28 : decode cX11_summed 28 = .ok (.iaload, 1) := by decide +kernel
theorem dX11_summed_29 : decode cX11_summed 29 = .ok (.if_icmp .ge 57, 3) := by decide +kernel
theorem dX11_summed_32 : decode cX11_summed 32 = .ok (.aload_n 0, 1) := by decide +kernel
theorem dX11_summed_33 : decode cX11_summed 33 = .ok (.iload_n 3, 1) := by decide +kernel
theorem dX11_summed_34 : decode cX11_summed 34 = .ok (.iload 4, 2) := by decide +kernel
theorem dX11_summed_36 : decode cX11_summed 36 = .ok (.invokevirtual 185, 3) := by decide +kernel
theorem dX11_summed_39 : decode cX11_summed 39 = .ok (.iload_n 2, 1) := by decide +kernel
theorem dX11_summed_40 : decode cX11_summed 40 = .ok (.iload_n 1, 1) := by decide +kernel
theorem dX11_summed_41 : decode cX11_summed 41 = .ok (.ifCond .ne 10, 3) := by decide +kernel
theorem dX11_summed_44 : decode cX11_summed 44 = .ok (.aload_n 0, 1) := by decide +kernel
theorem dX11_summed_45 : decode cX11_summed 45 = .ok (.getfield 179, 3) := by decide +kernel
theorem dX11_summed_48 : decode cX11_summed 48 = .ok (.goto 30, 3) := by decide +kernel
theorem dX11_summed_51 : decode cX11_summed 51 = .ok (.aload_n 0, 1) := by decide +kernel
theorem dX11_summed_52 : decode cX11_summed 52 = .ok (.getfield 182, 3) := by decide +kernel
theorem dX11_summed_55 : decode cX11_summed 55 = .ok (.ifCond .eq 22, 3) := by decide +kernel
theorem dX11_summed_58 : decode cX11_summed 58 = .ok (.iload_n 1, 1) := by decide +kernel
theorem dX11_summed_59 : decode cX11_summed 59 = .ok (.iconst 1, 1) := by decide +kernel
theorem dX11_summed_60 : decode cX11_summed 60 = .ok (.if_icmp .eq 13, 3) := by decide +kernel
theorem dX11_summed_63 : decode cX11_summed 63 = .ok (.aload_n 0, 1) := by decide +kernel
theorem dX11_summed_64 : decode cX11_summed 64 = .ok (.getfield 179, 3) := by decide +kernel
theorem dX11_summed_67 : decode cX11_summed 67 = .ok (.iload_n 1, 1) := by decide +kernel
theorem dX11_summed_68 : decode cX11_summed 68 = .ok (.iconst 2, 1) := by decide +kernel
theorem dX11_summed_69 : decode cX11_summed 69 = .ok (.isub, 1) := by decide +kernel
theorem dX11_summed_70 : decode cX11_summed 70 = .ok (.if_icmp .ne 7, 3) := by decide +kernel
theorem dX11_summed_73 : decode cX11_summed 73 = .ok (.iconst 1, 1) := by decide +kernel
theorem dX11_summed_74 : decode cX11_summed 74 = .ok (.goto 4, 3) := by decide +kernel
theorem dX11_summed_77 : decode cX11_summed 77 = .ok (.iconst 0, 1) := by decide +kernel
theorem dX11_summed_78 : decode cX11_summed 78 = .ok (.iadd, 1) := by decide +kernel
theorem dX11_summed_79 : decode cX11_summed 79 = .ok (.istore_n 2, 1) := by decide +kernel
theorem dX11_summed_80 : decode cX11_summed 80 = .ok (.iinc 4 1, 3) := by decide +kernel
theorem dX11_summed_83 : decode cX11_summed 83 = .ok (.goto (-62), 3) := by decide +kernel
theorem dX11_summed_86 : decode cX11_summed 86 = .ok (.iinc 3 1, 3) := by decide +kernel
theorem dX11_summed_89 : decode cX11_summed 89 = .ok (.goto (-81), 3) := by decide +kernel
theorem dX11_summed_92 : decode cX11_summed 92 = .ok (.iload_n 2, 1) := by decide +kernel
theorem dX11_summed_93 : decode cX11_summed 93 = .ok (.ireturn, 1) := by decide +kernel
theorem dX11_keeps_0 : decode cX11_keeps 0 = .ok (.aload_n 0, 1) := by decide +kernel
theorem dX11_keeps_1 : decode cX11_keeps 1 = .ok (.getfield 191, 3) := by decide +kernel
theorem dX11_keeps_4 : decode cX11_keeps 4 = .ok (.bipush 6, 2) := by decide +kernel
theorem dX11_keeps_6 : decode cX11_keeps 6 = .ok (.if_icmp .ne 26, 3) := by decide +kernel
theorem dX11_keeps_9 : decode cX11_keeps 9 = .ok (.aload_n 0, 1) := by decide +kernel
theorem dX11_keeps_10 : decode cX11_keeps 10 = .ok (.sipush 8465, 3) := by decide +kernel
theorem dX11_keeps_13 : decode cX11_keeps 13 = .ok (.sipush 4257, 3) := by decide +kernel
theorem dX11_keeps_16 : decode cX11_keeps 16 = .ok (.sipush 21040, 3) := by decide +kernel
theorem dX11_keeps_19 : decode cX11_keeps 19 = .ok (.invokevirtual 194, 3) := by decide +kernel
theorem dX11_keeps_22 : decode cX11_keeps 22 = .ok (.aload_n 0, 1) := by decide +kernel
theorem dX11_keeps_23 : decode cX11_keeps 23 = .ok (.dup, 1) := by decide +kernel
theorem dX11_keeps_24 : decode cX11_keeps 24 = .ok (.getfield 191, 3) := by decide +kernel
theorem dX11_keeps_27 : decode cX11_keeps 27 = .ok (.iconst 1, 1) := by decide +kernel
theorem dX11_keeps_28 : decode cX11_keeps 28 = .ok (.isub, 1) := by decide +kernel
theorem dX11_keeps_29 : decode cX11_keeps 29 = .ok (.putfield 191, 3) := by decide +kernel
theorem dX11_keeps_32 : decode cX11_keeps 32 = .ok (.aload_n 0, 1) := by decide +kernel
theorem dX11_keeps_33 : decode cX11_keeps 33 = .ok (.iconst 0, 1) := by decide +kernel
theorem dX11_keeps_34 : decode cX11_keeps 34 = .ok (.sipush 4257, 3) := by decide +kernel
theorem dX11_keeps_37 : decode cX11_keeps 37 = .ok (.sipush 4208, 3) := by decide +kernel
theorem dX11_keeps_40 : decode cX11_keeps 40 = .ok (.aload_n 0, 1) := by decide +kernel
theorem dX11_keeps_41 : decode cX11_keeps 41 = .ok (.getfield 191, 3) := by decide +kernel
theorem dX11_keeps_44 : decode cX11_keeps 44 = .ok (.imul, 1) := by decide +kernel
theorem dX11_keeps_45 : decode cX11_keeps 45 = .ok (.iadd, 1) := by decide +kernel
theorem dX11_keeps_46 : decode cX11_keeps 46 = .ok (.sipush 4208, 3) := by decide +kernel
theorem dX11_keeps_49 : decode cX11_keeps 49 = .ok (.invokevirtual 194, 3) := by decide +kernel
theorem dX11_keeps_52 : decode cX11_keeps 52 = .ok (.aload_n 0, 1) := by decide +kernel
theorem dX11_keeps_53 : decode cX11_keeps 53 = .ok (.dup, 1) := by decide +kernel
theorem dX11_keeps_54 : decode cX11_keeps 54 = .ok (.getfield 191, 3) := by decide +kernel
theorem dX11_keeps_57 : decode cX11_keeps 57 = .ok (.iconst 1, 1) := by decide +kernel
theorem dX11_keeps_58 : decode cX11_keeps 58 = .ok (.iadd, 1) := by decide +kernel
theorem dX11_keeps_59 : decode cX11_keeps 59 = .ok (.putfield 191, 3) := by decide +kernel
theorem dX11_keeps_62 : decode cX11_keeps 62 = .ok (.return_, 1) := by decide +kernel
theorem dX11_refused_0 : decode cX11_refused 0 = .ok (.aload_n 0, 1) := by decide +kernel
theorem dX11_refused_1 : decode cX11_refused 1 = .ok (.getfield 8, 3) := by decide +kernel
theorem dX11_refused_4 : decode cX11_refused 4 = .ok (.sipush 4208, 3) := by decide +kernel
theorem dX11_refused_7 : decode cX11_refused 7 = .ok (.iload_n 1, 1) := by decide +kernel
theorem dX11_refused_8 : decode cX11_refused 8 = .ok (.iastore, 1) := by decide +kernel
theorem dX11_refused_9 : decode cX11_refused 9 = .ok (.aload_n 0, 1) := by decide +kernel
theorem dX11_refused_10 : decode cX11_refused 10 = .ok (.getfield 8, 3) := by decide +kernel
theorem dX11_refused_13 : decode cX11_refused 13 = .ok (.sipush 4209, 3) := by decide +kernel
theorem dX11_refused_16 : decode cX11_refused 16 = .ok (.iload_n 2, 1) := by decide +kernel
theorem dX11_refused_17 : decode cX11_refused 17 = .ok (.iastore, 1) := by decide +kernel
theorem dX11_refused_18 : decode cX11_refused 18 = .ok (.aload_n 0, 1) := by decide +kernel
theorem dX11_refused_19 : decode cX11_refused 19 = .ok (.getfield 8, 3) := by decide +kernel
theorem dX11_refused_22 : decode cX11_refused 22 = .ok (.sipush 4210, 3) := by decide +kernel
theorem dX11_refused_25 : decode cX11_refused 25 = .ok (.iconst 0, 1) := by decide +kernel
theorem dX11_refused_26 : decode cX11_refused 26 = .ok (.iastore, 1) := by decide +kernel
theorem dX11_refused_27 : decode cX11_refused 27 = .ok (.iload_n 1, 1) := by decide +kernel
theorem dX11_refused_28 : decode cX11_refused 28 = .ok (.ireturn, 1) := by decide +kernel
theorem dX11_canBe_0 : decode cX11_canBe 0 = .ok (.iload_n 0, 1) := by decide +kernel
theorem dX11_canBe_1 : decode cX11_canBe 1 = .ok (.tableswitch 147 0 8 #[51, 77, 85, 102, 109, 116, 124, 132, 140], 51) := by decide +kernel
theorem dX11_canBe_52 : decode cX11_canBe 52 = .ok (.iload_n 1, 1) := by decide +kernel
theorem dX11_canBe_53 : decode cX11_canBe 53 = .ok (.bipush 16, 2) := by decide +kernel
theorem dX11_canBe_55 : decode cX11_canBe 55 = .ok (.sipush 1024, 3) := by decide +kernel
theorem dX11_canBe_58 : decode cX11_canBe 58 = .ok (.invokestatic 52, 3) := by decide +kernel
theorem dX11_canBe_61 : decode cX11_canBe 61 = .ok (.ifCond .eq 15, 3) := by decide +kernel
theorem dX11_canBe_64 : decode cX11_canBe 64 = .ok (.iload_n 1, 1) := by decide +kernel
theorem dX11_canBe_65 : decode cX11_canBe 65 = .ok (.iload_n 1, 1) := by decide +kernel
theorem dX11_canBe_66 : decode cX11_canBe 66 = .ok (.iconst 1, 1) := by decide +kernel
theorem dX11_canBe_67 : decode cX11_canBe 67 = .ok (.isub, 1) := by decide +kernel
theorem dX11_canBe_68 : decode cX11_canBe 68 = .ok (.iand, 1) := by decide +kernel
theorem dX11_canBe_69 : decode cX11_canBe 69 = .ok (.ifCond .ne 7, 3) := by decide +kernel
theorem dX11_canBe_72 : decode cX11_canBe 72 = .ok (.iconst 1, 1) := by decide +kernel
theorem dX11_canBe_73 : decode cX11_canBe 73 = .ok (.goto 4, 3) := by decide +kernel
theorem dX11_canBe_76 : decode cX11_canBe 76 = .ok (.iconst 0, 1) := by decide +kernel
theorem dX11_canBe_77 : decode cX11_canBe 77 = .ok (.ireturn, 1) := by decide +kernel
theorem dX11_canBe_78 : decode cX11_canBe 78 = .ok (.iload_n 1, 1) := by decide +kernel
theorem dX11_canBe_79 : decode cX11_canBe 79 = .ok (.iconst 1, 1) := by decide +kernel
theorem dX11_canBe_80 : decode cX11_canBe 80 = .ok (.bipush 32, 2) := by decide +kernel
theorem dX11_canBe_82 : decode cX11_canBe 82 = .ok (.invokestatic 52, 3) := by decide +kernel
theorem dX11_canBe_85 : decode cX11_canBe 85 = .ok (.ireturn, 1) := by decide +kernel
theorem dX11_canBe_86 : decode cX11_canBe 86 = .ok (.iload_n 1, 1) := by decide +kernel
theorem dX11_canBe_87 : decode cX11_canBe 87 = .ok (.ifCond .eq 10, 3) := by decide +kernel
theorem dX11_canBe_90 : decode cX11_canBe 90 = .ok (.iload_n 1, 1) := by decide +kernel
theorem dX11_canBe_91 : decode cX11_canBe 91 = .ok (.invokestatic 44, 3) := by decide +kernel
theorem dX11_canBe_94 : decode cX11_canBe 94 = .ok (.ifCond .eq 7, 3) := by decide +kernel
theorem dX11_canBe_97 : decode cX11_canBe 97 = .ok (.iconst 1, 1) := by decide +kernel
theorem dX11_canBe_98 : decode cX11_canBe 98 = .ok (.goto 4, 3) := by decide +kernel
theorem dX11_canBe_101 : decode cX11_canBe 101 = .ok (.iconst 0, 1) := by decide +kernel
theorem dX11_canBe_102 : decode cX11_canBe 102 = .ok (.ireturn, 1) := by decide +kernel
theorem dX11_canBe_103 : decode cX11_canBe 103 = .ok (.iload_n 1, 1) := by decide +kernel
theorem dX11_canBe_104 : decode cX11_canBe 104 = .ok (.iconst 0, 1) := by decide +kernel
theorem dX11_canBe_105 : decode cX11_canBe 105 = .ok (.iconst 4, 1) := by decide +kernel
theorem dX11_canBe_106 : decode cX11_canBe 106 = .ok (.invokestatic 52, 3) := by decide +kernel
theorem dX11_canBe_109 : decode cX11_canBe 109 = .ok (.ireturn, 1) := by decide +kernel
theorem dX11_canBe_110 : decode cX11_canBe 110 = .ok (.iload_n 1, 1) := by decide +kernel
theorem dX11_canBe_111 : decode cX11_canBe 111 = .ok (.iconst 0, 1) := by decide +kernel
theorem dX11_canBe_112 : decode cX11_canBe 112 = .ok (.iconst 2, 1) := by decide +kernel
theorem dX11_canBe_113 : decode cX11_canBe 113 = .ok (.invokestatic 52, 3) := by decide +kernel
theorem dX11_canBe_116 : decode cX11_canBe 116 = .ok (.ireturn, 1) := by decide +kernel
theorem dX11_canBe_117 : decode cX11_canBe 117 = .ok (.iload_n 1, 1) := by decide +kernel
theorem dX11_canBe_118 : decode cX11_canBe 118 = .ok (.iconst 1, 1) := by decide +kernel
theorem dX11_canBe_119 : decode cX11_canBe 119 = .ok (.bipush 20, 2) := by decide +kernel
theorem dX11_canBe_121 : decode cX11_canBe 121 = .ok (.invokestatic 52, 3) := by decide +kernel
theorem dX11_canBe_124 : decode cX11_canBe 124 = .ok (.ireturn, 1) := by decide +kernel
theorem dX11_canBe_125 : decode cX11_canBe 125 = .ok (.iload_n 1, 1) := by decide +kernel
theorem dX11_canBe_126 : decode cX11_canBe 126 = .ok (.iconst 1, 1) := by decide +kernel
theorem dX11_canBe_127 : decode cX11_canBe 127 = .ok (.bipush 20, 2) := by decide +kernel
theorem dX11_canBe_129 : decode cX11_canBe 129 = .ok (.invokestatic 52, 3) := by decide +kernel
theorem dX11_canBe_132 : decode cX11_canBe 132 = .ok (.ireturn, 1) := by decide +kernel
theorem dX11_canBe_133 : decode cX11_canBe 133 = .ok (.iload_n 1, 1) := by decide +kernel
theorem dX11_canBe_134 : decode cX11_canBe 134 = .ok (.iconst 0, 1) := by decide +kernel
theorem dX11_canBe_135 : decode cX11_canBe 135 = .ok (.bipush 100, 2) := by decide +kernel
theorem dX11_canBe_137 : decode cX11_canBe 137 = .ok (.invokestatic 52, 3) := by decide +kernel
theorem dX11_canBe_140 : decode cX11_canBe 140 = .ok (.ireturn, 1) := by decide +kernel
theorem dX11_canBe_141 : decode cX11_canBe 141 = .ok (.iload_n 1, 1) := by decide +kernel
theorem dX11_canBe_142 : decode cX11_canBe 142 = .ok (.iconst 0, 1) := by decide +kernel
theorem dX11_canBe_143 : decode cX11_canBe 143 = .ok (.iconst 2, 1) := by decide +kernel
theorem dX11_canBe_144 : decode cX11_canBe 144 = .ok (.invokestatic 52, 3) := by decide +kernel
theorem dX11_canBe_147 : decode cX11_canBe 147 = .ok (.ireturn, 1) := by decide +kernel
theorem dX11_canBe_148 : decode cX11_canBe 148 = .ok (.iconst 0, 1) := by decide +kernel
theorem dX11_canBe_149 : decode cX11_canBe 149 = .ok (.ireturn, 1) := by decide +kernel
theorem dX11_set_0 : decode cX11_set 0 = .ok (.iload_n 1, 1) := by decide +kernel
theorem dX11_set_1 : decode cX11_set 1 = .ok (.iload_n 2, 1) := by decide +kernel
theorem dX11_set_2 : decode cX11_set 2 = .ok (.invokestatic 197, 3) := by decide +kernel
theorem dX11_set_5 : decode cX11_set 5 = .ok (.ifCond .ne 10, 3) := by decide +kernel
theorem dX11_set_8 : decode cX11_set 8 = .ok (.aload_n 0, 1) := by decide +kernel
theorem dX11_set_9 : decode cX11_set 9 = .ok (.iconst 1, 1) := by decide +kernel
theorem dX11_set_10 : decode cX11_set 10 = .ok (.iconst 0, 1) := by decide +kernel
theorem dX11_set_11 : decode cX11_set 11 = .ok (.invokevirtual 200, 3) := by decide +kernel
theorem dX11_set_14 : decode cX11_set 14 = .ok (.ireturn, 1) := by decide +kernel
theorem dX11_set_15 : decode cX11_set 15 = .ok (.aload_n 0, 1) := by decide +kernel
theorem dX11_set_16 : decode cX11_set 16 = .ok (.getfield 8, 3) := by decide +kernel
theorem dX11_set_19 : decode cX11_set 19 = .ok (.iload_n 1, 1) := by decide +kernel
theorem dX11_set_20 : decode cX11_set 20 = .ok (.iaload, 1) := by decide +kernel
theorem dX11_set_21 : decode cX11_set 21 = .ok (.iload_n 2, 1) := by decide +kernel
theorem dX11_set_22 : decode cX11_set 22 = .ok (.if_icmp .ne 10, 3) := by decide +kernel
theorem dX11_set_25 : decode cX11_set 25 = .ok (.aload_n 0, 1) := by decide +kernel
theorem dX11_set_26 : decode cX11_set 26 = .ok (.iconst 2, 1) := by decide +kernel
theorem dX11_set_27 : decode cX11_set 27 = .ok (.iconst 0, 1) := by decide +kernel
theorem dX11_set_28 : decode cX11_set 28 = .ok (.invokevirtual 200, 3) := by decide +kernel
theorem dX11_set_31 : decode cX11_set 31 = .ok (.ireturn, 1) := by decide +kernel
theorem dX11_set_32 : decode cX11_set 32 = .ok (.aload_n 0, 1) := by decide +kernel
theorem dX11_set_33 : decode cX11_set 33 = .ok (.iconst 0, 1) := by decide +kernel
theorem dX11_set_34 : decode cX11_set 34 = .ok (.sipush 4211, 3) := by decide +kernel
theorem dX11_set_37 : decode cX11_set 37 = .ok (.bipush 46, 2) := by decide +kernel
theorem dX11_set_39 : decode cX11_set 39 = .ok (.invokevirtual 194, 3) := by decide +kernel
theorem dX11_set_42 : decode cX11_set 42 = .ok (.aload_n 0, 1) := by decide +kernel
theorem dX11_set_43 : decode cX11_set 43 = .ok (.getfield 8, 3) := by decide +kernel
theorem dX11_set_46 : decode cX11_set 46 = .ok (.sipush 4211, 3) := by decide +kernel
theorem dX11_set_49 : decode cX11_set 49 = .ok (.iload_n 1, 1) := by decide +kernel
theorem dX11_set_50 : decode cX11_set 50 = .ok (.iadd, 1) := by decide +kernel
theorem dX11_set_51 : decode cX11_set 51 = .ok (.iload_n 2, 1) := by decide +kernel
theorem dX11_set_52 : decode cX11_set 52 = .ok (.iastore, 1) := by decide +kernel
theorem dX11_set_53 : decode cX11_set 53 = .ok (.aload_n 0, 1) := by decide +kernel
theorem dX11_set_54 : decode cX11_set 54 = .ok (.sipush 4211, 3) := by decide +kernel
theorem dX11_set_57 : decode cX11_set 57 = .ok (.invokevirtual 203, 3) := by decide +kernel
theorem dX11_set_60 : decode cX11_set 60 = .ok (.istore_n 3, 1) := by decide +kernel
theorem dX11_set_61 : decode cX11_set 61 = .ok (.iload_n 3, 1) := by decide +kernel
theorem dX11_set_62 : decode cX11_set 62 = .ok (.ifCond .le 57, 3) := by decide +kernel
theorem dX11_set_65 : decode cX11_set 65 = .ok (.aload_n 0, 1) := by decide +kernel
theorem dX11_set_66 : decode cX11_set 66 = .ok (.iconst 4, 1) := by decide +kernel
theorem dX11_set_67 : decode cX11_set 67 = .ok (.iload_n 3, 1) := by decide +kernel
theorem dX11_set_68 : decode cX11_set 68 = .ok (.invokevirtual 200, 3) := by decide +kernel
theorem dX11_set_71 : decode cX11_set 71 = .ok (.pop, 1) := by decide +kernel
theorem dX11_set_72 : decode cX11_set 72 = .ok (.aload_n 0, 1) := by decide +kernel
theorem dX11_set_73 : decode cX11_set 73 = .ok (.getfield 8, 3) := by decide +kernel
theorem dX11_set_76 : decode cX11_set 76 = .ok (.sipush 4210, 3) := by decide +kernel
theorem dX11_set_79 : decode cX11_set 79 = .ok (.iload_n 3, 1) := by decide +kernel
theorem dX11_set_80 : decode cX11_set 80 = .ok (.bipush 6, 2) := by decide +kernel
theorem dX11_set_82 : decode cX11_set 82 = .ok (.if_icmp .ne 7, 3) := by decide +kernel
theorem dX11_set_85 : decode cX11_set 85 = .ok (.iconst 0, 1) := by decide +kernel
theorem dX11_set_86 : decode cX11_set 86 = .ok (.goto 30, 3) := by decide +kernel
theorem dX11_set_89 : decode cX11_set 89 = .ok (.aload_n 0, 1) := by decide +kernel
theorem dX11_set_90 : decode cX11_set 90 = .ok (.sipush 4211, 3) := by decide +kernel
theorem dX11_set_93 : decode cX11_set 93 = .ok (.aload_n 0, 1) := by decide +kernel
theorem dX11_set_94 : decode cX11_set 94 = .ok (.getfield 8, 3) := by decide +kernel
theorem dX11_set_97 : decode cX11_set 97 = .ok (.sipush 4213, 3) := by decide +kernel
theorem dX11_set_100 : decode cX11_set 100 = .ok (.iaload, 1) := by decide +kernel
theorem dX11_set_101 : decode cX11_set 101 = .ok (.invokevirtual 48, 3) := by decide +kernel
theorem dX11_set_104 : decode cX11_set 104 = .ok (.bipush 8, 2) := by decide +kernel
theorem dX11_set_106 : decode cX11_set 106 = .ok (.if_icmp .ge 8, 3) := by decide +kernel
theorem dX11_set_109 : decode cX11_set 109 = .ok (.bipush 7, 2) := by decide +kernel
theorem dX11_set_111 : decode cX11_set 111 = .ok (.goto 5, 3) := by decide +kernel
theorem dX11_set_114 : decode cX11_set 114 = .ok (.bipush 8, 2) := by decide +kernel
theorem dX11_set_116 : decode cX11_set 116 = .ok (.iastore, 1) := by decide +kernel
theorem dX11_set_117 : decode cX11_set 117 = .ok (.iconst 4, 1) := by decide +kernel
theorem dX11_set_118 : decode cX11_set 118 = .ok (.ireturn, 1) := by decide +kernel
theorem dX11_set_119 : decode cX11_set 119 = .ok (.aload_n 0, 1) := by decide +kernel
theorem dX11_set_120 : decode cX11_set 120 = .ok (.invokevirtual 206, 3) := by decide +kernel
theorem dX11_set_123 : decode cX11_set 123 = .ok (.iload_n 1, 1) := by decide +kernel
theorem dX11_set_124 : decode cX11_set 124 = .ok (.iconst 2, 1) := by decide +kernel
theorem dX11_set_125 : decode cX11_set 125 = .ok (.if_icmp .lt 28, 3) := by decide +kernel
theorem dX11_set_128 : decode cX11_set 128 = .ok (.iload_n 1, 1) := by decide +kernel
theorem dX11_set_129 : decode cX11_set 129 = .ok (.iconst 3, 1) := by decide +kernel
theorem dX11_set_130 : decode cX11_set 130 = .ok (.if_icmp .eq 23, 3) := by decide +kernel
theorem dX11_set_133 : decode cX11_set 133 = .ok (.iload_n 1, 1) := by decide +kernel
theorem dX11_set_134 : decode cX11_set 134 = .ok (.iconst 4, 1) := by decide +kernel
theorem dX11_set_135 : decode cX11_set 135 = .ok (.if_icmp .eq 18, 3) := by decide +kernel
theorem dX11_set_138 : decode cX11_set 138 = .ok (.aload_n 0, 1) := by decide +kernel
theorem dX11_set_139 : decode cX11_set 139 = .ok (.iconst 0, 1) := by decide +kernel
theorem dX11_set_140 : decode cX11_set 140 = .ok (.invokevirtual 135, 3) := by decide +kernel
theorem dX11_set_143 : decode cX11_set 143 = .ok (.aload_n 0, 1) := by decide +kernel
theorem dX11_set_144 : decode cX11_set 144 = .ok (.sipush 4211, 3) := by decide +kernel
theorem dX11_set_147 : decode cX11_set 147 = .ok (.invokevirtual 135, 3) := by decide +kernel
theorem dX11_set_150 : decode cX11_set 150 = .ok (.if_icmp .eq 7, 3) := by decide +kernel
theorem dX11_set_153 : decode cX11_set 153 = .ok (.iconst 1, 1) := by decide +kernel
theorem dX11_set_154 : decode cX11_set 154 = .ok (.goto 4, 3) := by decide +kernel
theorem dX11_set_157 : decode cX11_set 157 = .ok (.iconst 0, 1) := by decide +kernel
theorem dX11_set_158 : decode cX11_set 158 = .ok (.istore 4, 2) := by decide +kernel
theorem dX11_set_160 : decode cX11_set 160 = .ok (.aload_n 0, 1) := by decide +kernel
theorem dX11_set_161 : decode cX11_set 161 = .ok (.getfield 8, 3) := by decide +kernel
theorem dX11_set_164 : decode cX11_set 164 = .ok (.iload_n 1, 1) := by decide +kernel
theorem dX11_set_165 : decode cX11_set 165 = .ok (.iload_n 2, 1) := by decide +kernel
theorem dX11_set_166 : decode cX11_set 166 = .ok (.iastore, 1) := by decide +kernel
theorem dX11_set_167 : decode cX11_set 167 = .ok (.iload 4, 2) := by decide +kernel
theorem dX11_set_169 : decode cX11_set 169 = .ok (.ifCond .eq 7, 3) := by decide +kernel
theorem dX11_set_172 : decode cX11_set 172 = .ok (.aload_n 0, 1) := by decide +kernel
theorem dX11_set_173 : decode cX11_set 173 = .ok (.invokevirtual 209, 3) := by decide +kernel
theorem dX11_set_176 : decode cX11_set 176 = .ok (.aload_n 0, 1) := by decide +kernel
theorem dX11_set_177 : decode cX11_set 177 = .ok (.iconst 0, 1) := by decide +kernel
theorem dX11_set_178 : decode cX11_set 178 = .ok (.iconst 0, 1) := by decide +kernel
theorem dX11_set_179 : decode cX11_set 179 = .ok (.invokevirtual 200, 3) := by decide +kernel
theorem dX11_set_182 : decode cX11_set 182 = .ok (.ireturn, 1) := by decide +kernel
theorem dX11_canBad_0 : decode cX11_canBad 0 = .ok (.iload_n 0, 1) := by decide +kernel
theorem dX11_canBad_1 : decode cX11_canBad 1 = .ok (.iconst 0, 1) := by decide +kernel
theorem dX11_canBad_2 : decode cX11_canBad 2 = .ok (.sipush 511, 3) := by decide +kernel
theorem dX11_canBad_5 : decode cX11_canBad 5 = .ok (.invokestatic 52, 3) := by decide +kernel
theorem dX11_canBad_8 : decode cX11_canBad 8 = .ok (.ifCond .eq 18, 3) := by decide +kernel
theorem dX11_canBad_11 : decode cX11_canBad 11 = .ok (.iload_n 1, 1) := by decide +kernel
theorem dX11_canBad_12 : decode cX11_canBad 12 = .ok (.iconst 0, 1) := by decide +kernel
theorem dX11_canBad_13 : decode cX11_canBad 13 = .ok (.sipush 255, 3) := by decide +kernel
theorem dX11_canBad_16 : decode cX11_canBad 16 = .ok (.invokestatic 52, 3) := by decide +kernel
theorem dX11_canBad_19 : decode cX11_canBad 19 = .ok (.ifCond .eq 7, 3) := by decide +kernel
theorem dX11_canBad_22 : decode cX11_canBad 22 = .ok (.iconst 1, 1) := by decide +kernel
theorem dX11_canBad_23 : decode cX11_canBad 23 = .ok (.goto 4, 3) := by decide +kernel
theorem dX11_canBad_26 : decode cX11_canBad 26 = .ok (.iconst 0, 1) := by decide +kernel
theorem dX11_canBad_27 : decode cX11_canBad 27 = .ok (.ireturn, 1) := by decide +kernel
theorem dX11_badBy_0 : decode cX11_badBy 0 = .ok (.iconst 0, 1) := by decide +kernel
theorem dX11_badBy_1 : decode cX11_badBy 1 = .ok (.istore 4, 2) := by decide +kernel
theorem dX11_badBy_3 : decode cX11_badBy 3 = .ok (.iload 4, 2) := by decide +kernel
theorem dX11_badBy_5 : decode cX11_badBy 5 = .ok (.aload_n 0, 1) := by decide +kernel
theorem dX11_badBy_6 : decode cX11_badBy 6 = .ok (.getfield 8, 3) := by decide +kernel
theorem dX11_badBy_9 : decode cX11_badBy 9 = .ok (.iload_n 1, 1) := by decide +kernel
theorem dX11_badBy_10 : decode cX11_badBy 10 = .ok (.bipush 9, 2) := by decide +kernel
theorem dX11_badBy_12 : decode cX11_badBy 12 = .ok (.iadd, 1) := by decide +kernel
theorem dX11_badBy_13 : decode cX11_badBy 13 = .ok (.iaload, 1) := by decide +kernel
theorem dX11_badBy_14 : decode cX11_badBy 14 = .ok (.if_icmp .ge 44, 3) := by decide +kernel
theorem dX11_badBy_17 : decode cX11_badBy 17 = .ok (.aload_n 0, 1) := by decide +kernel
theorem dX11_badBy_18 : decode cX11_badBy 18 = .ok (.getfield 8, 3) := by decide +kernel
theorem dX11_badBy_21 : decode cX11_badBy 21 = .ok (.iload_n 1, 1) := by decide +kernel
theorem dX11_badBy_22 : decode cX11_badBy 22 = .ok (.iload 4, 2) := by decide +kernel
theorem dX11_badBy_24 : decode cX11_badBy 24 = .ok (.invokestatic 138, 3) := by decide +kernel
theorem dX11_badBy_27 : decode cX11_badBy 27 = .ok (.iaload, 1) := by decide +kernel
theorem dX11_badBy_28 : decode cX11_badBy 28 = .ok (.iload_n 2, 1) := by decide +kernel
theorem dX11_badBy_29 : decode cX11_badBy 29 = .ok (.if_icmp .ne 23, 3) := by decide +kernel
theorem dX11_badBy_32 : decode cX11_badBy 32 = .ok (.aload_n 0, 1) := by decide +kernel
theorem dX11_badBy_33 : decode cX11_badBy 33 = .ok (.getfield 8, 3) := by decide +kernel
theorem dX11_badBy_36 : decode cX11_badBy 36 = .ok (.iload_n 1, 1) := by decide +kernel
theorem dX11_badBy_37 : decode cX11_badBy 37 = .ok (.iload 4, 2) := by decide +kernel
theorem dX11_badBy_39 : decode cX11_badBy 39 = .ok (.invokestatic 138, 3) := by decide +kernel
theorem dX11_badBy_42 : decode cX11_badBy 42 = .ok (.iconst 1, 1) := by decide +kernel
theorem dX11_badBy_43 : decode cX11_badBy 43 = .ok (.iadd, 1) := by decide +kernel
theorem dX11_badBy_44 : decode cX11_badBy 44 = .ok (.iaload, 1) := by decide +kernel
theorem dX11_badBy_45 : decode cX11_badBy 45 = .ok (.iload_n 3, 1) := by decide +kernel
theorem dX11_badBy_46 : decode cX11_badBy 46 = .ok (.if_icmp .ne 6, 3) := by decide +kernel
theorem dX11_badBy_49 : decode cX11_badBy 49 = .ok (.iload 4, 2) := by decide +kernel
theorem dX11_badBy_51 : decode cX11_badBy 51 = .ok (.ireturn, 1) := by decide +kernel
theorem dX11_badBy_52 : decode cX11_badBy 52 = .ok (.iinc 4 1, 3) := by decide +kernel
theorem dX11_badBy_55 : decode cX11_badBy 55 = .ok (.goto (-52), 3) := by decide +kernel
theorem dX11_badBy_58 : decode cX11_badBy 58 = .ok (.iconst (-1), 1) := by decide +kernel
